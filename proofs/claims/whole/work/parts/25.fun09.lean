section
def j84_22  (o0 : Option Nat) (x1 : Int32) (o2 : Option Nat) (s0 : Option Nat) (h : xH) : Option (Option Nat × xH) := some (s0, h)
theorem j84_22_ok {xs : List Int32} {d : Nat} (hd : 2 ≤ d) {o0 : Option Nat} {x1 : Int32} {o2 : Option Nat} {s0 : Option Nat} {h : xH} {r : (Option Nat × xH)} (hf : j84_22 o0 x1 o2 s0 h = some r) : xEv (xTa xs) d 84 (22, [xrv o0, .int x1, xrv o2], [xrv s0], h) (some (xrv r.1), r.2) := by
  unfold j84_22 at hf
  obtain rfl := Option.some.inj hf
  exact sh_aret i84_22 m84 rfl
def j84_21  (o0 : Option Nat) (x1 : Int32) (o2 : Option Nat) (h : xH) : Option (Option Nat × xH) := j84_22 o0 x1 o2 none h
theorem j84_21_ok {xs : List Int32} {d : Nat} (hd : 2 ≤ d) {o0 : Option Nat} {x1 : Int32} {o2 : Option Nat} {h : xH} {r : (Option Nat × xH)} (hf : j84_21 o0 x1 o2 h = some r) : xEv (xTa xs) d 84 (21, [xrv o0, .int x1, xrv o2], [], h) (some (xrv r.1), r.2) := by
  unfold j84_21 at hf
  refine sh_cnull i84_21 ?_
  exact j84_22_ok hd hf
def fn84 (o0 : Option Nat) (x1 : Int32) (h : xH) : Option (Option Nat × xH) := (xcv h o0 8).bind fun _ => (fn83 o0 x1 h).bind fun r_1 => (if r_1.1 = none then j84_21 o0 x1 r_1.1 r_1.2 else (xcv r_1.2 r_1.1 2).bind fun _ => (fn12 r_1.1 r_1.2).bind fun r_3 => (if r_3.1 = 0 then j84_21 o0 x1 r_1.1 r_3.2 else j84_22 o0 x1 r_1.1 r_1.1 r_3.2))
theorem fn84_call {xs : List Int32} {d : Nat} (hd : 3 ≤ d) {o0 : Option Nat} {x1 : Int32} {h : xH} {r : (Option Nat × xH)} (hf : fn84 o0 x1 h = some r) : xCall (xTa xs) d 84 [xrv o0, .int x1] h (some (xrv r.1), r.2) := by
  obtain ⟨d, rfl⟩ : ∃ d2, d = d2 + 1 := ⟨d - 1, by omega⟩
  replace hd : 2 ≤ d := by omega
  refine call_of2 (fl := [xrv o0, .int x1]) (Ls := [xrv o0, .int x1, .float 0]) m84 (by simp [xfl, xrv_cat, xc_i, xc_j, xc_a, xc_f]) (Nat.le_of_ble_eq_true rfl) rfl ?_
  unfold fn84 at hf
  refine sh_aload (i' := 0) (n := 1) i84_0 (Or.inr ⟨rfl, by decide⟩) rfl ?_
  refine ev_do i84_1 rfl ?_
  obtain ⟨_, eu_6, hf⟩ := x_bind hf
  obtain ⟨r_1, er_1, hf⟩ := x_bind hf
  refine sh_inv (as := [.int x1]) (z := (some (xrv r_1.1), r_1.2)) i84_2 v84_37 (Or.inl ⟨by decide, rfl⟩) m83 rfl (Nat.le_of_ble_eq_true rfl) eu_6 (fn83_call (by omega) er_1) ?_
  refine sh_astore (i' := 2) (n := 1) i84_5 (Or.inr ⟨rfl, by decide⟩) (xokst_of (Nat.le_of_ble_eq_true rfl) rfl) ?_
  refine sh_aload (i' := 2) (n := 1) i84_6 (Or.inr ⟨rfl, by decide⟩) rfl ?_
  refine sh_null (t := 21) i84_7 rfl (fun c_2 => ?_) (fun c_2 => ?_)
  · replace hf := x_pos c_2 hf
    exact j84_21_ok hd hf
  · replace hf := x_neg c_2 hf
    refine sh_aload (i' := 2) (n := 1) i84_10 (Or.inr ⟨rfl, by decide⟩) rfl ?_
    obtain ⟨_, eu_5, hf⟩ := x_bind hf
    obtain ⟨r_3, er_3, hf⟩ := x_bind hf
    refine sh_inv (as := []) (z := (some (.int r_3.1), r_3.2)) i84_11 v84_41 (Or.inl ⟨by decide, rfl⟩) m12 rfl (Nat.le_of_ble_eq_true rfl) eu_5 (fn12_call (by omega) er_3) ?_
    refine ev_if (t := 21) i84_14 rfl (fun c_4 => ?_) (fun c_4 => ?_)
    · replace hf := x_pos (show r_3.1 = 0 from c_4) hf
      exact j84_21_ok hd hf
    · replace hf := x_neg (show ¬ r_3.1 = 0 from c_4) hf
      refine sh_aload (i' := 2) (n := 1) i84_17 (Or.inr ⟨rfl, by decide⟩) rfl ?_
      refine sh_goto (t := 22) i84_18 rfl ?_
      exact j84_22_ok hd hf
end
section
def j85_23 (k4 : Option Nat → Int32 → Int32 → xH → Option (Int32 × xH)) (o0 : Option Nat) (x1 : Int32) (x2 : Int32) (h : xH) : Option (Int32 × xH) := k4 o0 x1 (x2 + 1) h
theorem j85_23_ok {xs : List Int32} {d : Nat} (hd : 3 ≤ d) {k4 : Option Nat → Int32 → Int32 → xH → Option (Int32 × xH)} (hk4 : ∀ {o0 : Option Nat} {x1 : Int32} {x2 : Int32} {h : xH} {r : (Int32 × xH)}, k4 o0 x1 x2 h = some r → xEv (xTa xs) d 85 (4, [xrv o0, .int x1, .int x2], [], h) (some (.int r.1), r.2)) {o0 : Option Nat} {x1 : Int32} {x2 : Int32} {h : xH} {r : (Int32 × xH)} (hf : j85_23 k4 o0 x1 x2 h = some r) : xEv (xTa xs) d 85 (23, [xrv o0, .int x1, .int x2], [], h) (some (.int r.1), r.2) := by
  unfold j85_23 at hf
  refine sh_inc (i' := 2) i85_23 rfl (xokst_of (Nat.le_of_ble_eq_true rfl) rfl) rfl ?_
  refine sh_goto (t := 4) i85_26 rfl ?_
  exact hk4 hf
def l85_4  : Nat → Option Nat → Int32 → Int32 → xH → Option (Int32 × xH)
  | 0 => fun _ _ _ _ => none
  | n + 1 => fun o0 x1 x2 h => (xgI h o0 8 1).bind fun v_1 => (if v_1 ≤ x2 then some (x1, h) else (xcv h o0 8).bind fun _ => (fn84 o0 x2 h).bind fun r_3 => (if r_3.1 = none then j85_23 (l85_4 n) o0 x1 x2 r_3.2 else j85_23 (l85_4 n) o0 (x1 + 1) x2 r_3.2))
theorem l85_4_ok {xs : List Int32} {d : Nat} (hd : 3 ≤ d) : ∀ (n : Nat) {o0 : Option Nat} {x1 : Int32} {x2 : Int32} {h : xH} {r : (Int32 × xH)}, l85_4 n o0 x1 x2 h = some r → xEv (xTa xs) d 85 (4, [xrv o0, .int x1, .int x2], [], h) (some (.int r.1), r.2) := by
  intro n
  induction n with
  | zero => intros; rename_i hf; cases hf
  | succ n ih =>
    intro o0 x1 x2 h r hf
    replace hf : ((xgI h o0 8 1).bind fun v_1 => (if v_1 ≤ x2 then some (x1, h) else (xcv h o0 8).bind fun _ => (fn84 o0 x2 h).bind fun r_3 => (if r_3.1 = none then j85_23 (l85_4 n) o0 x1 x2 r_3.2 else j85_23 (l85_4 n) o0 (x1 + 1) x2 r_3.2))) = some r := hf
    refine ev_do i85_4 rfl ?_
    refine sh_aload (i' := 0) (n := 1) i85_5 (Or.inr ⟨rfl, by decide⟩) rfl ?_
    obtain ⟨v_1, ev_1, hf⟩ := x_bind hf
    refine sh_getI i85_6 f85_17 ev_1 ?_
    refine ev_icmp (t := 29) i85_9 rfl (fun c_2 => ?_) (fun c_2 => ?_)
    · replace hf := x_pos (show v_1 ≤ x2 from c_2) hf
      refine ev_do i85_29 rfl ?_
      obtain rfl := Option.some.inj hf
      exact sh_iret i85_30 m85 rfl rfl
    · replace hf := x_neg (show ¬ v_1 ≤ x2 from c_2) hf
      refine sh_aload (i' := 0) (n := 1) i85_12 (Or.inr ⟨rfl, by decide⟩) rfl ?_
      refine ev_do i85_13 rfl ?_
      obtain ⟨_, eu_5, hf⟩ := x_bind hf
      obtain ⟨r_3, er_3, hf⟩ := x_bind hf
      refine sh_inv (as := [.int x2]) (z := (some (xrv r_3.1), r_3.2)) i85_14 v85_45 (Or.inl ⟨by decide, rfl⟩) m84 rfl (Nat.le_of_ble_eq_true rfl) eu_5 (fn84_call (by omega) er_3) ?_
      refine sh_null (t := 23) i85_17 rfl (fun c_4 => ?_) (fun c_4 => ?_)
      · replace hf := x_pos c_4 hf
        exact j85_23_ok hd ih hf
      · replace hf := x_neg c_4 hf
        refine sh_inc (i' := 1) i85_20 rfl (xokst_of (Nat.le_of_ble_eq_true rfl) (xrv_cat (o0))) rfl ?_
        exact j85_23_ok hd ih hf
def fn85 (o0 : Option Nat) (h : xH) : Option (Int32 × xH) := l85_4 xFuel o0 0 0 h
theorem fn85_call {xs : List Int32} {d : Nat} (hd : 4 ≤ d) {o0 : Option Nat} {h : xH} {r : (Int32 × xH)} (hf : fn85 o0 h = some r) : xCall (xTa xs) d 85 [xrv o0] h (some (.int r.1), r.2) := by
  obtain ⟨d, rfl⟩ : ∃ d2, d = d2 + 1 := ⟨d - 1, by omega⟩
  replace hd : 3 ≤ d := by omega
  refine call_of2 (fl := [xrv o0]) (Ls := [xrv o0, .float 0, .float 0]) m85 (by simp [xfl, xrv_cat, xc_i, xc_j, xc_a, xc_f]) (Nat.le_of_ble_eq_true rfl) rfl ?_
  unfold fn85 at hf
  refine ev_do i85_0 rfl ?_
  refine sh_istore (i' := 1) (n := 1) i85_1 (Or.inr ⟨rfl, by decide⟩) (xokst_of (Nat.le_of_ble_eq_true rfl) (xrv_cat (o0))) ?_
  refine ev_do i85_2 rfl ?_
  refine sh_istore (i' := 2) (n := 1) i85_3 (Or.inr ⟨rfl, by decide⟩) (xokst_of (Nat.le_of_ble_eq_true rfl) rfl) ?_
  exact l85_4_ok hd xFuel hf
end
section
def j86_32 (k4 : Option Nat → Int32 → Int32 → xH → Option (Int32 × xH)) (o0 : Option Nat) (x1 : Int32) (x2 : Int32) (o3 : Option Nat) (h : xH) : Option (Int32 × xH) := k4 o0 x1 (x2 + 1) h
theorem j86_32_ok {xs : List Int32} {d : Nat} (hd : 2 ≤ d) {k4 : Option Nat → Int32 → Int32 → xH → Option (Int32 × xH)} (hk4 : ∀ {u3 : Value} {o0 : Option Nat} {x1 : Int32} {x2 : Int32} {h : xH} {r : (Int32 × xH)}, u3.category = 1 → k4 o0 x1 x2 h = some r → xEv (xTa xs) d 86 (4, [xrv o0, .int x1, .int x2, u3], [], h) (some (.int r.1), r.2)) {o0 : Option Nat} {x1 : Int32} {x2 : Int32} {o3 : Option Nat} {h : xH} {r : (Int32 × xH)} (hf : j86_32 k4 o0 x1 x2 o3 h = some r) : xEv (xTa xs) d 86 (32, [xrv o0, .int x1, .int x2, xrv o3], [], h) (some (.int r.1), r.2) := by
  unfold j86_32 at hf
  refine sh_inc (i' := 2) i86_32 rfl (xokst_of (Nat.le_of_ble_eq_true rfl) rfl) rfl ?_
  refine sh_goto (t := 4) i86_35 rfl ?_
  exact hk4 (xrv_cat (o3)) hf
def l86_4  : Nat → Option Nat → Int32 → Int32 → xH → Option (Int32 × xH)
  | 0 => fun _ _ _ _ => none
  | n + 1 => fun o0 x1 x2 h => (xgI h o0 8 1).bind fun v_1 => (if v_1 ≤ x2 then some (x1, h) else (xcv h o0 8).bind fun _ => (fn83 o0 x2 h).bind fun r_3 => (if r_3.1 = none then j86_32 (l86_4 n) o0 x1 x2 r_3.1 r_3.2 else (xgI r_3.2 r_3.1 2 8).bind fun v_5 => (if v_5 = 0 then j86_32 (l86_4 n) o0 x1 x2 r_3.1 r_3.2 else j86_32 (l86_4 n) o0 (x1 + 1) x2 r_3.1 r_3.2)))
theorem l86_4_ok {xs : List Int32} {d : Nat} (hd : 2 ≤ d) : ∀ (n : Nat) {u3 : Value} {o0 : Option Nat} {x1 : Int32} {x2 : Int32} {h : xH} {r : (Int32 × xH)} (hu3 : u3.category = 1), l86_4 n o0 x1 x2 h = some r → xEv (xTa xs) d 86 (4, [xrv o0, .int x1, .int x2, u3], [], h) (some (.int r.1), r.2) := by
  intro n
  induction n with
  | zero => intros; rename_i hf; cases hf
  | succ n ih =>
    intro u3 o0 x1 x2 h r hu3 hf
    replace hf : ((xgI h o0 8 1).bind fun v_1 => (if v_1 ≤ x2 then some (x1, h) else (xcv h o0 8).bind fun _ => (fn83 o0 x2 h).bind fun r_3 => (if r_3.1 = none then j86_32 (l86_4 n) o0 x1 x2 r_3.1 r_3.2 else (xgI r_3.2 r_3.1 2 8).bind fun v_5 => (if v_5 = 0 then j86_32 (l86_4 n) o0 x1 x2 r_3.1 r_3.2 else j86_32 (l86_4 n) o0 (x1 + 1) x2 r_3.1 r_3.2)))) = some r := hf
    refine ev_do i86_4 rfl ?_
    refine sh_aload (i' := 0) (n := 1) i86_5 (Or.inr ⟨rfl, by decide⟩) rfl ?_
    obtain ⟨v_1, ev_1, hf⟩ := x_bind hf
    refine sh_getI i86_6 f86_17 ev_1 ?_
    refine ev_icmp (t := 38) i86_9 rfl (fun c_2 => ?_) (fun c_2 => ?_)
    · replace hf := x_pos (show v_1 ≤ x2 from c_2) hf
      refine ev_do i86_38 rfl ?_
      obtain rfl := Option.some.inj hf
      exact sh_iret i86_39 m86 rfl rfl
    · replace hf := x_neg (show ¬ v_1 ≤ x2 from c_2) hf
      refine sh_aload (i' := 0) (n := 1) i86_12 (Or.inr ⟨rfl, by decide⟩) rfl ?_
      refine ev_do i86_13 rfl ?_
      obtain ⟨_, eu_7, hf⟩ := x_bind hf
      obtain ⟨r_3, er_3, hf⟩ := x_bind hf
      refine sh_inv (as := [.int x2]) (z := (some (xrv r_3.1), r_3.2)) i86_14 v86_37 (Or.inl ⟨by decide, rfl⟩) m83 rfl (Nat.le_of_ble_eq_true rfl) eu_7 (fn83_call (by omega) er_3) ?_
      refine sh_astore (i' := 3) (n := 1) i86_17 (Or.inr ⟨rfl, by decide⟩) (xokst_of (Nat.le_of_ble_eq_true rfl) rfl) ?_
      refine sh_aload (i' := 3) (n := 1) i86_18 (Or.inr ⟨rfl, by decide⟩) rfl ?_
      refine sh_null (t := 32) i86_19 rfl (fun c_4 => ?_) (fun c_4 => ?_)
      · replace hf := x_pos c_4 hf
        exact j86_32_ok hd ih hf
      · replace hf := x_neg c_4 hf
        refine sh_aload (i' := 3) (n := 1) i86_22 (Or.inr ⟨rfl, by decide⟩) rfl ?_
        obtain ⟨v_5, ev_5, hf⟩ := x_bind hf
        refine sh_getI i86_23 f86_48 ev_5 ?_
        refine ev_if (t := 32) i86_26 rfl (fun c_6 => ?_) (fun c_6 => ?_)
        · replace hf := x_pos (show v_5 = 0 from c_6) hf
          exact j86_32_ok hd ih hf
        · replace hf := x_neg (show ¬ v_5 = 0 from c_6) hf
          refine sh_inc (i' := 1) i86_29 rfl (xokst_of (Nat.le_of_ble_eq_true rfl) (xrv_cat (o0))) rfl ?_
          exact j86_32_ok hd ih hf
def fn86 (o0 : Option Nat) (h : xH) : Option (Int32 × xH) := l86_4 xFuel o0 0 0 h
theorem fn86_call {xs : List Int32} {d : Nat} (hd : 3 ≤ d) {o0 : Option Nat} {h : xH} {r : (Int32 × xH)} (hf : fn86 o0 h = some r) : xCall (xTa xs) d 86 [xrv o0] h (some (.int r.1), r.2) := by
  obtain ⟨d, rfl⟩ : ∃ d2, d = d2 + 1 := ⟨d - 1, by omega⟩
  replace hd : 2 ≤ d := by omega
  refine call_of2 (fl := [xrv o0]) (Ls := [xrv o0, .float 0, .float 0, .float 0]) m86 (by simp [xfl, xrv_cat, xc_i, xc_j, xc_a, xc_f]) (Nat.le_of_ble_eq_true rfl) rfl ?_
  unfold fn86 at hf
  refine ev_do i86_0 rfl ?_
  refine sh_istore (i' := 1) (n := 1) i86_1 (Or.inr ⟨rfl, by decide⟩) (xokst_of (Nat.le_of_ble_eq_true rfl) (xrv_cat (o0))) ?_
  refine ev_do i86_2 rfl ?_
  refine sh_istore (i' := 2) (n := 1) i86_3 (Or.inr ⟨rfl, by decide⟩) (xokst_of (Nat.le_of_ble_eq_true rfl) rfl) ?_
  exact l86_4_ok hd xFuel rfl hf
end
section
def l98_3  : Nat → Option Nat → Int32 → Int32 → xH → Option xH
  | 0 => fun _ _ _ _ => none
  | n + 1 => fun o0 x1 x2 h => (if x2 < 0 then some h else (xcv h o0 9).bind fun _ => (fn97 o0 (xush x1 x2) h).bind fun r_2 => l98_3 n o0 x1 (x2 + (-8)) r_2.2)
theorem l98_3_ok {xs : List Int32} {d : Nat} (hd : 2 ≤ d) : ∀ (n : Nat) {o0 : Option Nat} {x1 : Int32} {x2 : Int32} {h : xH} {r : xH}, l98_3 n o0 x1 x2 h = some r → xEv (xTa xs) d 98 (3, [xrv o0, .int x1, .int x2], [], h) (none, r) := by
  intro n
  induction n with
  | zero => intros; rename_i hf; cases hf
  | succ n ih =>
    intro o0 x1 x2 h r hf
    replace hf : ((if x2 < 0 then some h else (xcv h o0 9).bind fun _ => (fn97 o0 (xush x1 x2) h).bind fun r_2 => l98_3 n o0 x1 (x2 + (-8)) r_2.2)) = some r := hf
    refine ev_do i98_3 rfl ?_
    refine ev_if (t := 21) i98_4 rfl (fun c_1 => ?_) (fun c_1 => ?_)
    · replace hf := x_pos (show x2 < 0 from c_1) hf
      obtain rfl := Option.some.inj hf
      exact sh_vret i98_21 m98 rfl
    · replace hf := x_neg (show ¬ x2 < 0 from c_1) hf
      refine sh_aload (i' := 0) (n := 1) i98_7 (Or.inr ⟨rfl, by decide⟩) rfl ?_
      refine ev_do i98_8 rfl ?_
      refine ev_do i98_9 rfl ?_
      refine ev_do i98_10 rfl ?_
      obtain ⟨_, eu_3, hf⟩ := x_bind hf
      obtain ⟨r_2, er_2, hf⟩ := x_bind hf
      refine sh_inv (as := [.int (xush x1 x2)]) (z := (some (.int r_2.1), r_2.2)) i98_11 v98_25 (Or.inl ⟨by decide, rfl⟩) m97 rfl (Nat.le_of_ble_eq_true rfl) eu_3 (fn97_call (by omega) er_2) ?_
      refine sh_pop i98_14 rfl ?_
      refine sh_inc (i' := 2) i98_15 rfl (xokst_of (Nat.le_of_ble_eq_true rfl) rfl) rfl ?_
      refine sh_goto (t := 3) i98_18 rfl ?_
      exact ih hf
def fn98 (o0 : Option Nat) (x1 : Int32) (h : xH) : Option xH := l98_3 xFuel o0 x1 24 h
theorem fn98_call {xs : List Int32} {d : Nat} (hd : 3 ≤ d) {o0 : Option Nat} {x1 : Int32} {h : xH} {r : xH} (hf : fn98 o0 x1 h = some r) : xCall (xTa xs) d 98 [xrv o0, .int x1] h (none, r) := by
  obtain ⟨d, rfl⟩ : ∃ d2, d = d2 + 1 := ⟨d - 1, by omega⟩
  replace hd : 2 ≤ d := by omega
  refine call_of2 (fl := [xrv o0, .int x1]) (Ls := [xrv o0, .int x1, .float 0]) m98 (by simp [xfl, xrv_cat, xc_i, xc_j, xc_a, xc_f]) (Nat.le_of_ble_eq_true rfl) rfl ?_
  unfold fn98 at hf
  refine ev_do i98_0 rfl ?_
  refine sh_istore (i' := 2) (n := 1) i98_2 (Or.inr ⟨rfl, by decide⟩) (xokst_of (Nat.le_of_ble_eq_true rfl) rfl) ?_
  exact l98_3_ok hd xFuel hf
end
section
def j108_30  (o0 : Option Nat) (x1 : Int32) (x2 : Int32) (s0 : Int32) (h : xH) : Option (Int32 × xH) := (if s0 &&& 1 = s0 then some (s0, h) else none)
theorem j108_30_ok {xs : List Int32} {d : Nat} (hd : 3 ≤ d) {o0 : Option Nat} {x1 : Int32} {x2 : Int32} {s0 : Int32} {h : xH} {r : (Int32 × xH)} (hf : j108_30 o0 x1 x2 s0 h = some r) : xEv (xTa xs) d 108 (30, [xrv o0, .int x1, .int x2], [.int s0], h) (some (.int r.1), r.2) := by
  unfold j108_30 at hf
  by_cases c_1 : s0 &&& 1 = s0
  · replace hf := x_pos c_1 hf
    obtain rfl := Option.some.inj hf
    exact sh_iret i108_30 m108 rfl (congrArg Value.int c_1)
  · replace hf := x_neg c_1 hf
    cases hf
def j108_29  (o0 : Option Nat) (x1 : Int32) (x2 : Int32) (h : xH) : Option (Int32 × xH) := j108_30 o0 x1 x2 0 h
theorem j108_29_ok {xs : List Int32} {d : Nat} (hd : 3 ≤ d) {o0 : Option Nat} {x1 : Int32} {x2 : Int32} {h : xH} {r : (Int32 × xH)} (hf : j108_29 o0 x1 x2 h = some r) : xEv (xTa xs) d 108 (29, [xrv o0, .int x1, .int x2], [], h) (some (.int r.1), r.2) := by
  unfold j108_29 at hf
  refine ev_do i108_29 rfl ?_
  exact j108_30_ok hd hf
def fn108 (o0 : Option Nat) (x1 : Int32) (x2 : Int32) (h : xH) : Option (Int32 × xH) := (xgI h o0 9 1).bind fun v_1 => (xcv h o0 9).bind fun _ => (fn107 o0 0 v_1 h).bind fun r_2 => (if r_2.1 = 0 then j108_29 o0 x1 x2 r_2.2 else (xcv r_2.2 o0 9).bind fun _ => (fn96 o0 0 r_2.2).bind fun r_4 => (fn135 r_4.1 x1 x2 r_4.2).bind fun r_5 => (if r_5.1 = 0 then j108_29 o0 x1 x2 r_5.2 else j108_30 o0 x1 x2 1 r_5.2))
theorem fn108_call {xs : List Int32} {d : Nat} (hd : 4 ≤ d) {o0 : Option Nat} {x1 : Int32} {x2 : Int32} {h : xH} {r : (Int32 × xH)} (hf : fn108 o0 x1 x2 h = some r) : xCall (xTa xs) d 108 [xrv o0, .int x1, .int x2] h (some (.int r.1), r.2) := by
  obtain ⟨d, rfl⟩ : ∃ d2, d = d2 + 1 := ⟨d - 1, by omega⟩
  replace hd : 3 ≤ d := by omega
  refine call_of2 (fl := [xrv o0, .int x1, .int x2]) (Ls := [xrv o0, .int x1, .int x2]) m108 (by simp [xfl, xrv_cat, xc_i, xc_j, xc_a, xc_f]) (Nat.le_of_ble_eq_true rfl) rfl ?_
  unfold fn108 at hf
  refine sh_aload (i' := 0) (n := 1) i108_0 (Or.inr ⟨rfl, by decide⟩) rfl ?_
  refine ev_do i108_1 rfl ?_
  refine sh_aload (i' := 0) (n := 1) i108_2 (Or.inr ⟨rfl, by decide⟩) rfl ?_
  obtain ⟨v_1, ev_1, hf⟩ := x_bind hf
  refine sh_getI i108_3 f108_21 ev_1 ?_
  obtain ⟨_, eu_8, hf⟩ := x_bind hf
  obtain ⟨r_2, er_2, hf⟩ := x_bind hf
  refine sh_inv (as := [.int v_1, .int 0]) (z := (some (.int r_2.1), r_2.2)) i108_6 v108_53 (Or.inl ⟨by decide, rfl⟩) m107 rfl (Nat.le_of_ble_eq_true rfl) eu_8 (fn107_call (by omega) er_2) ?_
  refine ev_if (t := 29) i108_9 rfl (fun c_3 => ?_) (fun c_3 => ?_)
  · replace hf := x_pos (show r_2.1 = 0 from c_3) hf
    exact j108_29_ok hd hf
  · replace hf := x_neg (show ¬ r_2.1 = 0 from c_3) hf
    refine sh_aload (i' := 0) (n := 1) i108_12 (Or.inr ⟨rfl, by decide⟩) rfl ?_
    refine ev_do i108_13 rfl ?_
    obtain ⟨_, eu_7, hf⟩ := x_bind hf
    obtain ⟨r_4, er_4, hf⟩ := x_bind hf
    refine sh_inv (as := [.int 0]) (z := (some (.int r_4.1), r_4.2)) i108_14 v108_39 (Or.inl ⟨by decide, rfl⟩) m96 rfl (Nat.le_of_ble_eq_true rfl) eu_7 (fn96_call (by omega) er_4) ?_
    refine ev_do i108_17 rfl ?_
    refine ev_do i108_18 rfl ?_
    obtain ⟨r_5, er_5, hf⟩ := x_bind hf
    refine ev_sta (as := [.int x2, .int x1, .int r_4.1]) (z := (some (.int r_5.1), r_5.2)) i108_19 v108_57 (Or.inr rfl) m135 rfl (Nat.le_of_ble_eq_true rfl) (fn135_call (by omega) er_5) ?_
    refine ev_if (t := 29) i108_22 rfl (fun c_6 => ?_) (fun c_6 => ?_)
    · replace hf := x_pos (show r_5.1 = 0 from c_6) hf
      exact j108_29_ok hd hf
    · replace hf := x_neg (show ¬ r_5.1 = 0 from c_6) hf
      refine ev_do i108_25 rfl ?_
      refine sh_goto (t := 30) i108_26 rfl ?_
      exact j108_30_ok hd hf
end
section
def fn111 (o0 : Option Nat) (h : xH) : Option xH := (o0).bind fun a_1 => (some (xnew h (9, [.null, .int 0]))).bind fun h_2 => (xcv h_2 (some h.1) 9).bind fun _ => (fn95 (some h.1) 600 h_2).bind fun h_3 => (xpF h_3 o0 10 0 (.object "DocFormat$Text") (xrv (some h.1))).bind fun h_4 => (some (xnew h_4 (8, [.null, .int 0]))).bind fun h_5 => (xcv h_5 (some h_4.1) 8).bind fun _ => (fn81 (some h_4.1) h_5).bind fun h_6 => (xpF h_6 o0 10 1 (.object "DocFormat$Register") (xrv (some h_4.1))).bind fun h_7 => (some (xnew h_7 (7, [.null, .null, .null, .null, .int 0, .int 0, .int 0]))).bind fun h_8 => (xcv h_8 (some h_7.1) 7).bind fun _ => (fn60 (some h_7.1) h_8).bind fun h_9 => (xpF h_9 o0 10 2 (.object "DocFormat$Reader") (xrv (some h_7.1))).bind fun h_10 => (some (xnew h_10 (3, [.null, .int 0, .null, .null, .int 0, .null, .null, .int 0, .int 0, .int 0]))).bind fun h_11 => (xcv h_11 (some h_10.1) 3).bind fun _ => (fn18 (some h_10.1) h_11).bind fun h_12 => (xpF h_12 o0 10 3 (.object "DocFormat$Layout") (xrv (some h_10.1))).bind fun h_13 => (some (xnew h_13 (4, [.null, .null, .int 0]))).bind fun h_14 => (xcv h_14 (some h_13.1) 4).bind fun _ => (fn40 (some h_13.1) h_14).bind fun h_15 => (xpF h_15 o0 10 4 (.object "DocFormat$Notes") (xrv (some h_13.1))).bind fun h_16 => (some (xnew h_16 (1, [.null, .null, .null, .int 0, .int 0, .null]))).bind fun h_17 => (xcv h_17 (some h_16.1) 1).bind fun _ => (fn3 (some h_16.1) h_17).bind fun h_18 => (xpF h_18 o0 10 5 (.object "DocFormat$Comment") (xrv (some h_16.1))).bind fun h_19 => (some (xnew h_19 (5, [.null, .null, .null, .int 0, .int 0, .int 0, .int 0, .int 0, .int 0]))).bind fun h_20 => (xcv h_20 (some h_19.1) 5).bind fun _ => (fn50 (some h_19.1) h_20).bind fun h_21 => (xpF h_21 o0 10 6 (.object "DocFormat$Page") (xrv (some h_19.1))).bind fun h_22 => (some (xnew h_22 (5, [.null, .null, .null, .int 0, .int 0, .int 0, .int 0, .int 0, .int 0]))).bind fun h_23 => (xcv h_23 (some h_22.1) 5).bind fun _ => (fn50 (some h_22.1) h_23).bind fun h_24 => (xpF h_24 o0 10 7 (.object "DocFormat$Page") (xrv (some h_22.1))).bind fun h_25 => some h_25
theorem fn111_call {xs : List Int32} {d : Nat} (hd : 4 ≤ d) {o0 : Option Nat} {h : xH} {r : xH} (hf : fn111 o0 h = some r) : xCall (xTa xs) d 111 [xrv o0] h (none, r) := by
  obtain ⟨d, rfl⟩ : ∃ d2, d = d2 + 1 := ⟨d - 1, by omega⟩
  replace hd : 3 ≤ d := by omega
  refine call_of2 (fl := [xrv o0]) (Ls := [xrv o0]) m111 (by simp [xfl, xrv_cat, xc_i, xc_j, xc_a, xc_f]) (Nat.le_of_ble_eq_true rfl) rfl ?_
  unfold fn111 at hf
  refine sh_aload (i' := 0) (n := 1) i111_0 (Or.inr ⟨rfl, by decide⟩) rfl ?_
  obtain ⟨a_1, ea_1, hf⟩ := x_bind hf
  refine sh_obj i111_1 v111_1 (Nat.le_of_ble_eq_true rfl) ea_1 ?_
  refine sh_aload (i' := 0) (n := 1) i111_4 (Or.inr ⟨rfl, by decide⟩) rfl ?_
  obtain ⟨h_2, eh_2, hf⟩ := x_bind hf
  refine sh_new (fs := [.null, .int 0]) i111_5 c111_7 (by decide) rfl ?_
  rw [Option.some.inj eh_2]
  refine sh_dup i111_8 (xrv_cat (some h.1)) ?_
  refine ev_do i111_9 rfl ?_
  obtain ⟨_, eu_33, hf⟩ := x_bind hf
  obtain ⟨h_3, eh_3, hf⟩ := x_bind hf
  refine sh_inv (as := [.int 600]) (z := (none, h_3)) i111_12 v111_11 (Or.inr ⟨by decide, rfl⟩) m95 rfl (by simp [xcat, xrv_cat, xc_i, xc_j, xc_a, xc_f]) eu_33 (fn95_call (by omega) eh_3) ?_
  obtain ⟨h_4, eh_4, hf⟩ := x_bind hf
  refine sh_put i111_15 f111_14 (by decide) rfl eh_4 ?_
  refine sh_aload (i' := 0) (n := 1) i111_18 (Or.inr ⟨rfl, by decide⟩) rfl ?_
  obtain ⟨h_5, eh_5, hf⟩ := x_bind hf
  refine sh_new (fs := [.null, .int 0]) i111_19 c111_18 (by decide) rfl ?_
  rw [Option.some.inj eh_5]
  refine sh_dup i111_22 (xrv_cat (some h_4.1)) ?_
  obtain ⟨_, eu_32, hf⟩ := x_bind hf
  obtain ⟨h_6, eh_6, hf⟩ := x_bind hf
  refine sh_inv (as := []) (z := (none, h_6)) i111_23 v111_20 (Or.inr ⟨by decide, rfl⟩) m81 rfl (by simp [xcat, xrv_cat, xc_i, xc_j, xc_a, xc_f]) eu_32 (fn81_call (by omega) eh_6) ?_
  obtain ⟨h_7, eh_7, hf⟩ := x_bind hf
  refine sh_put i111_26 f111_21 (by decide) rfl eh_7 ?_
  refine sh_aload (i' := 0) (n := 1) i111_29 (Or.inr ⟨rfl, by decide⟩) rfl ?_
  obtain ⟨h_8, eh_8, hf⟩ := x_bind hf
  refine sh_new (fs := [.null, .null, .null, .null, .int 0, .int 0, .int 0]) i111_30 c111_25 (by decide) rfl ?_
  rw [Option.some.inj eh_8]
  refine sh_dup i111_33 (xrv_cat (some h_7.1)) ?_
  obtain ⟨_, eu_31, hf⟩ := x_bind hf
  obtain ⟨h_9, eh_9, hf⟩ := x_bind hf
  refine sh_inv (as := []) (z := (none, h_9)) i111_34 v111_27 (Or.inr ⟨by decide, rfl⟩) m60 rfl (by simp [xcat, xrv_cat, xc_i, xc_j, xc_a, xc_f]) eu_31 (fn60_call (by omega) eh_9) ?_
  obtain ⟨h_10, eh_10, hf⟩ := x_bind hf
  refine sh_put i111_37 f111_28 (by decide) rfl eh_10 ?_
  refine sh_aload (i' := 0) (n := 1) i111_40 (Or.inr ⟨rfl, by decide⟩) rfl ?_
  obtain ⟨h_11, eh_11, hf⟩ := x_bind hf
  refine sh_new (fs := [.null, .int 0, .null, .null, .int 0, .null, .null, .int 0, .int 0, .int 0]) i111_41 c111_32 (by decide) rfl ?_
  rw [Option.some.inj eh_11]
  refine sh_dup i111_44 (xrv_cat (some h_10.1)) ?_
  obtain ⟨_, eu_30, hf⟩ := x_bind hf
  obtain ⟨h_12, eh_12, hf⟩ := x_bind hf
  refine sh_inv (as := []) (z := (none, h_12)) i111_45 v111_34 (Or.inr ⟨by decide, rfl⟩) m18 rfl (by simp [xcat, xrv_cat, xc_i, xc_j, xc_a, xc_f]) eu_30 (fn18_call (by omega) eh_12) ?_
  obtain ⟨h_13, eh_13, hf⟩ := x_bind hf
  refine sh_put i111_48 f111_35 (by decide) rfl eh_13 ?_
  refine sh_aload (i' := 0) (n := 1) i111_51 (Or.inr ⟨rfl, by decide⟩) rfl ?_
  obtain ⟨h_14, eh_14, hf⟩ := x_bind hf
  refine sh_new (fs := [.null, .null, .int 0]) i111_52 c111_39 (by decide) rfl ?_
  rw [Option.some.inj eh_14]
  refine sh_dup i111_55 (xrv_cat (some h_13.1)) ?_
  obtain ⟨_, eu_29, hf⟩ := x_bind hf
  obtain ⟨h_15, eh_15, hf⟩ := x_bind hf
  refine sh_inv (as := []) (z := (none, h_15)) i111_56 v111_41 (Or.inr ⟨by decide, rfl⟩) m40 rfl (by simp [xcat, xrv_cat, xc_i, xc_j, xc_a, xc_f]) eu_29 (fn40_call (by omega) eh_15) ?_
  obtain ⟨h_16, eh_16, hf⟩ := x_bind hf
  refine sh_put i111_59 f111_42 (by decide) rfl eh_16 ?_
  refine sh_aload (i' := 0) (n := 1) i111_62 (Or.inr ⟨rfl, by decide⟩) rfl ?_
  obtain ⟨h_17, eh_17, hf⟩ := x_bind hf
  refine sh_new (fs := [.null, .null, .null, .int 0, .int 0, .null]) i111_63 c111_46 (by decide) rfl ?_
  rw [Option.some.inj eh_17]
  refine sh_dup i111_66 (xrv_cat (some h_16.1)) ?_
  obtain ⟨_, eu_28, hf⟩ := x_bind hf
  obtain ⟨h_18, eh_18, hf⟩ := x_bind hf
  refine sh_inv (as := []) (z := (none, h_18)) i111_67 v111_48 (Or.inr ⟨by decide, rfl⟩) m3 rfl (by simp [xcat, xrv_cat, xc_i, xc_j, xc_a, xc_f]) eu_28 (fn3_call (by omega) eh_18) ?_
  obtain ⟨h_19, eh_19, hf⟩ := x_bind hf
  refine sh_put i111_70 f111_49 (by decide) rfl eh_19 ?_
  refine sh_aload (i' := 0) (n := 1) i111_73 (Or.inr ⟨rfl, by decide⟩) rfl ?_
  obtain ⟨h_20, eh_20, hf⟩ := x_bind hf
  refine sh_new (fs := [.null, .null, .null, .int 0, .int 0, .int 0, .int 0, .int 0, .int 0]) i111_74 c111_53 (by decide) rfl ?_
  rw [Option.some.inj eh_20]
  refine sh_dup i111_77 (xrv_cat (some h_19.1)) ?_
  obtain ⟨_, eu_27, hf⟩ := x_bind hf
  obtain ⟨h_21, eh_21, hf⟩ := x_bind hf
  refine sh_inv (as := []) (z := (none, h_21)) i111_78 v111_55 (Or.inr ⟨by decide, rfl⟩) m50 rfl (by simp [xcat, xrv_cat, xc_i, xc_j, xc_a, xc_f]) eu_27 (fn50_call (by omega) eh_21) ?_
  obtain ⟨h_22, eh_22, hf⟩ := x_bind hf
  refine sh_put i111_81 f111_56 (by decide) rfl eh_22 ?_
  refine sh_aload (i' := 0) (n := 1) i111_84 (Or.inr ⟨rfl, by decide⟩) rfl ?_
  obtain ⟨h_23, eh_23, hf⟩ := x_bind hf
  refine sh_new (fs := [.null, .null, .null, .int 0, .int 0, .int 0, .int 0, .int 0, .int 0]) i111_85 c111_53 (by decide) rfl ?_
  rw [Option.some.inj eh_23]
  refine sh_dup i111_88 (xrv_cat (some h_22.1)) ?_
  obtain ⟨_, eu_26, hf⟩ := x_bind hf
  obtain ⟨h_24, eh_24, hf⟩ := x_bind hf
  refine sh_inv (as := []) (z := (none, h_24)) i111_89 v111_55 (Or.inr ⟨by decide, rfl⟩) m50 rfl (by simp [xcat, xrv_cat, xc_i, xc_j, xc_a, xc_f]) eu_26 (fn50_call (by omega) eh_24) ?_
  obtain ⟨h_25, eh_25, hf⟩ := x_bind hf
  refine sh_put i111_92 f111_60 (by decide) rfl eh_25 ?_
  obtain rfl := Option.some.inj hf
  exact sh_vret i111_95 m111 rfl
end
section
def fn112 (o0 : Option Nat) (x1 : Int32) (x2 : Int32) (x3 : Int32) (x4 : Int32) (x5 : Int32) (h : xH) : Option (Int32 × xH) := (xgR h o0 10 0).bind fun a_1 => (xgI h a_1 9 1).bind fun v_2 => (if (v_2 + 20) ≤ 600 then (xgR h o0 10 0).bind fun a_4 => (xcv h a_4 9).bind fun _ => (fn98 a_4 x1 h).bind fun h_5 => (xgR h_5 o0 10 0).bind fun a_6 => (xcv h_5 a_6 9).bind fun _ => (fn98 a_6 x2 h_5).bind fun h_7 => (xgR h_7 o0 10 0).bind fun a_8 => (xcv h_7 a_8 9).bind fun _ => (fn98 a_8 x3 h_7).bind fun h_9 => (xgR h_9 o0 10 0).bind fun a_10 => (xcv h_9 a_10 9).bind fun _ => (fn98 a_10 x4 h_9).bind fun h_11 => (xgR h_11 o0 10 0).bind fun a_12 => (xcv h_11 a_12 9).bind fun _ => (fn98 a_12 x5 h_11).bind fun h_13 => (xgR h_13 o0 10 0).bind fun a_14 => (xgI h_13 a_14 9 1).bind fun v_15 => some (v_15, h_13) else some ((-3), h))
theorem fn112_call {xs : List Int32} {d : Nat} (hd : 4 ≤ d) {o0 : Option Nat} {x1 : Int32} {x2 : Int32} {x3 : Int32} {x4 : Int32} {x5 : Int32} {h : xH} {r : (Int32 × xH)} (hf : fn112 o0 x1 x2 x3 x4 x5 h = some r) : xCall (xTa xs) d 112 [xrv o0, .int x1, .int x2, .int x3, .int x4, .int x5] h (some (.int r.1), r.2) := by
  obtain ⟨d, rfl⟩ : ∃ d2, d = d2 + 1 := ⟨d - 1, by omega⟩
  replace hd : 3 ≤ d := by omega
  refine call_of2 (fl := [xrv o0, .int x1, .int x2, .int x3, .int x4, .int x5]) (Ls := [xrv o0, .int x1, .int x2, .int x3, .int x4, .int x5]) m112 (by simp [xfl, xrv_cat, xc_i, xc_j, xc_a, xc_f]) (Nat.le_of_ble_eq_true rfl) rfl ?_
  unfold fn112 at hf
  refine sh_aload (i' := 0) (n := 1) i112_0 (Or.inr ⟨rfl, by decide⟩) rfl ?_
  obtain ⟨a_1, ea_1, hf⟩ := x_bind hf
  refine sh_getR i112_1 f112_14 ea_1 ?_
  obtain ⟨v_2, ev_2, hf⟩ := x_bind hf
  refine sh_getI i112_4 f112_63 ev_2 ?_
  refine ev_do i112_7 rfl ?_
  refine ev_do i112_9 rfl ?_
  refine ev_do i112_10 rfl ?_
  refine ev_icmp (t := 19) i112_13 rfl (fun c_3 => ?_) (fun c_3 => ?_)
  · replace hf := x_pos (show (v_2 + 20) ≤ 600 from c_3) hf
    refine sh_aload (i' := 0) (n := 1) i112_19 (Or.inr ⟨rfl, by decide⟩) rfl ?_
    obtain ⟨a_4, ea_4, hf⟩ := x_bind hf
    refine sh_getR i112_20 f112_14 ea_4 ?_
    refine ev_do i112_23 rfl ?_
    obtain ⟨_, eu_20, hf⟩ := x_bind hf
    obtain ⟨h_5, eh_5, hf⟩ := x_bind hf
    refine sh_inv (as := [.int x1]) (z := (none, h_5)) i112_24 v112_67 (Or.inl ⟨by decide, rfl⟩) m98 rfl (Nat.le_of_ble_eq_true rfl) eu_20 (fn98_call (by omega) eh_5) ?_
    refine sh_aload (i' := 0) (n := 1) i112_27 (Or.inr ⟨rfl, by decide⟩) rfl ?_
    obtain ⟨a_6, ea_6, hf⟩ := x_bind hf
    refine sh_getR i112_28 f112_14 ea_6 ?_
    refine ev_do i112_31 rfl ?_
    obtain ⟨_, eu_19, hf⟩ := x_bind hf
    obtain ⟨h_7, eh_7, hf⟩ := x_bind hf
    refine sh_inv (as := [.int x2]) (z := (none, h_7)) i112_32 v112_67 (Or.inl ⟨by decide, rfl⟩) m98 rfl (Nat.le_of_ble_eq_true rfl) eu_19 (fn98_call (by omega) eh_7) ?_
    refine sh_aload (i' := 0) (n := 1) i112_35 (Or.inr ⟨rfl, by decide⟩) rfl ?_
    obtain ⟨a_8, ea_8, hf⟩ := x_bind hf
    refine sh_getR i112_36 f112_14 ea_8 ?_
    refine ev_do i112_39 rfl ?_
    obtain ⟨_, eu_18, hf⟩ := x_bind hf
    obtain ⟨h_9, eh_9, hf⟩ := x_bind hf
    refine sh_inv (as := [.int x3]) (z := (none, h_9)) i112_40 v112_67 (Or.inl ⟨by decide, rfl⟩) m98 rfl (Nat.le_of_ble_eq_true rfl) eu_18 (fn98_call (by omega) eh_9) ?_
    refine sh_aload (i' := 0) (n := 1) i112_43 (Or.inr ⟨rfl, by decide⟩) rfl ?_
    obtain ⟨a_10, ea_10, hf⟩ := x_bind hf
    refine sh_getR i112_44 f112_14 ea_10 ?_
    refine ev_do i112_47 rfl ?_
    obtain ⟨_, eu_17, hf⟩ := x_bind hf
    obtain ⟨h_11, eh_11, hf⟩ := x_bind hf
    refine sh_inv (as := [.int x4]) (z := (none, h_11)) i112_49 v112_67 (Or.inl ⟨by decide, rfl⟩) m98 rfl (Nat.le_of_ble_eq_true rfl) eu_17 (fn98_call (by omega) eh_11) ?_
    refine sh_aload (i' := 0) (n := 1) i112_52 (Or.inr ⟨rfl, by decide⟩) rfl ?_
    obtain ⟨a_12, ea_12, hf⟩ := x_bind hf
    refine sh_getR i112_53 f112_14 ea_12 ?_
    refine ev_do i112_56 rfl ?_
    obtain ⟨_, eu_16, hf⟩ := x_bind hf
    obtain ⟨h_13, eh_13, hf⟩ := x_bind hf
    refine sh_inv (as := [.int x5]) (z := (none, h_13)) i112_58 v112_67 (Or.inl ⟨by decide, rfl⟩) m98 rfl (Nat.le_of_ble_eq_true rfl) eu_16 (fn98_call (by omega) eh_13) ?_
    refine sh_aload (i' := 0) (n := 1) i112_61 (Or.inr ⟨rfl, by decide⟩) rfl ?_
    obtain ⟨a_14, ea_14, hf⟩ := x_bind hf
    refine sh_getR i112_62 f112_14 ea_14 ?_
    obtain ⟨v_15, ev_15, hf⟩ := x_bind hf
    refine sh_getI i112_65 f112_63 ev_15 ?_
    obtain rfl := Option.some.inj hf
    exact sh_iret i112_68 m112 rfl rfl
  · replace hf := x_neg (show ¬ (v_2 + 20) ≤ 600 from c_3) hf
    refine ev_do i112_16 rfl ?_
    obtain rfl := Option.some.inj hf
    exact sh_iret i112_18 m112 rfl rfl
end
section
def j113_17  (o0 : Option Nat) (x1 : Int32) (x2 : Int32) (h : xH) : Option (Int32 × xH) := some ((-1), h)
theorem j113_17_ok {xs : List Int32} {d : Nat} (hd : 2 ≤ d) {o0 : Option Nat} {x1 : Int32} {x2 : Int32} {h : xH} {r : (Int32 × xH)} (hf : j113_17 o0 x1 x2 h = some r) : xEv (xTa xs) d 113 (17, [xrv o0, .int x1, .int x2], [], h) (some (.int r.1), r.2) := by
  unfold j113_17 at hf
  refine ev_do i113_17 rfl ?_
  obtain rfl := Option.some.inj hf
  exact sh_iret i113_18 m113 rfl rfl
def fn113 (o0 : Option Nat) (x1 : Int32) (h : xH) : Option (Int32 × xH) := (xgR h o0 10 0).bind fun a_1 => (xgI h a_1 9 1).bind fun v_2 => (if x1 < 0 then j113_17 o0 x1 v_2 h else (if x1 ≤ v_2 then (xgR h o0 10 0).bind fun a_5 => (xcv h a_5 9).bind fun _ => (fn101 a_5 x1 h).bind fun h_6 => some (v_2, h_6) else j113_17 o0 x1 v_2 h))
theorem fn113_call {xs : List Int32} {d : Nat} (hd : 3 ≤ d) {o0 : Option Nat} {x1 : Int32} {h : xH} {r : (Int32 × xH)} (hf : fn113 o0 x1 h = some r) : xCall (xTa xs) d 113 [xrv o0, .int x1] h (some (.int r.1), r.2) := by
  obtain ⟨d, rfl⟩ : ∃ d2, d = d2 + 1 := ⟨d - 1, by omega⟩
  replace hd : 2 ≤ d := by omega
  refine call_of2 (fl := [xrv o0, .int x1]) (Ls := [xrv o0, .int x1, .float 0]) m113 (by simp [xfl, xrv_cat, xc_i, xc_j, xc_a, xc_f]) (Nat.le_of_ble_eq_true rfl) rfl ?_
  unfold fn113 at hf
  refine sh_aload (i' := 0) (n := 1) i113_0 (Or.inr ⟨rfl, by decide⟩) rfl ?_
  obtain ⟨a_1, ea_1, hf⟩ := x_bind hf
  refine sh_getR i113_1 f113_14 ea_1 ?_
  obtain ⟨v_2, ev_2, hf⟩ := x_bind hf
  refine sh_getI i113_4 f113_63 ev_2 ?_
  refine sh_istore (i' := 2) (n := 1) i113_7 (Or.inr ⟨rfl, by decide⟩) (xokst_of (Nat.le_of_ble_eq_true rfl) rfl) ?_
  refine ev_do i113_8 rfl ?_
  refine ev_if (t := 17) i113_9 rfl (fun c_3 => ?_) (fun c_3 => ?_)
  · replace hf := x_pos (show x1 < 0 from c_3) hf
    exact j113_17_ok hd hf
  · replace hf := x_neg (show ¬ x1 < 0 from c_3) hf
    refine ev_do i113_12 rfl ?_
    refine ev_do i113_13 rfl ?_
    refine ev_icmp (t := 19) i113_14 rfl (fun c_4 => ?_) (fun c_4 => ?_)
    · replace hf := x_pos (show x1 ≤ v_2 from c_4) hf
      refine sh_aload (i' := 0) (n := 1) i113_19 (Or.inr ⟨rfl, by decide⟩) rfl ?_
      obtain ⟨a_5, ea_5, hf⟩ := x_bind hf
      refine sh_getR i113_20 f113_14 ea_5 ?_
      refine ev_do i113_23 rfl ?_
      obtain ⟨_, eu_7, hf⟩ := x_bind hf
      obtain ⟨h_6, eh_6, hf⟩ := x_bind hf
      refine sh_inv (as := [.int x1]) (z := (none, h_6)) i113_24 v113_70 (Or.inl ⟨by decide, rfl⟩) m101 rfl (Nat.le_of_ble_eq_true rfl) eu_7 (fn101_call (by omega) eh_6) ?_
      refine ev_do i113_27 rfl ?_
      obtain rfl := Option.some.inj hf
      exact sh_iret i113_28 m113 rfl rfl
    · replace hf := x_neg (show ¬ x1 ≤ v_2 from c_4) hf
      exact j113_17_ok hd hf
end
section
def j114_71  (o0 : Option Nat) (x1 : Int32) (o2 : Option Nat) (x3 : Int32) (h : xH) : Option (Int32 × xH) := (xgR h o0 10 0).bind fun a_1 => (xcv h a_1 9).bind fun _ => (fn101 a_1 0 h).bind fun h_2 => some (x3, h_2)
theorem j114_71_ok {xs : List Int32} {d : Nat} (hd : 5 ≤ d) {o0 : Option Nat} {x1 : Int32} {o2 : Option Nat} {x3 : Int32} {h : xH} {r : (Int32 × xH)} (hf : j114_71 o0 x1 o2 x3 h = some r) : xEv (xTa xs) d 114 (71, [xrv o0, .int x1, xrv o2, .int x3], [], h) (some (.int r.1), r.2) := by
  unfold j114_71 at hf
  refine sh_aload (i' := 0) (n := 1) i114_71 (Or.inr ⟨rfl, by decide⟩) rfl ?_
  obtain ⟨a_1, ea_1, hf⟩ := x_bind hf
  refine sh_getR i114_72 f114_14 ea_1 ?_
  refine ev_do i114_75 rfl ?_
  obtain ⟨_, eu_3, hf⟩ := x_bind hf
  obtain ⟨h_2, eh_2, hf⟩ := x_bind hf
  refine sh_inv (as := [.int 0]) (z := (none, h_2)) i114_76 v114_70 (Or.inl ⟨by decide, rfl⟩) m101 rfl (Nat.le_of_ble_eq_true rfl) eu_3 (fn101_call (by omega) eh_2) ?_
  refine ev_do i114_79 rfl ?_
  obtain rfl := Option.some.inj hf
  exact sh_iret i114_80 m114 rfl rfl
def j114_20  (o0 : Option Nat) (x1 : Int32) (o2 : Option Nat) (x3 : Int32) (h : xH) : Option (Int32 × xH) := (xgR h o0 10 0).bind fun a_1 => (xcv h a_1 9).bind fun _ => (fn108 a_1 65 90 h).bind fun r_2 => (if r_2.1 = 0 then j114_71 o0 x1 o2 x3 r_2.2 else (xgR r_2.2 o0 10 1).bind fun a_4 => (xgR r_2.2 o0 10 0).bind fun a_5 => (xgR r_2.2 o0 10 0).bind fun a_6 => (xgI r_2.2 a_6 9 1).bind fun v_7 => (xcv r_2.2 a_4 8).bind fun _ => (fn87 a_4 a_5 0 v_7 r_2.2).bind fun r_8 => (if r_8.1 = none then (xgR r_8.2 o0 10 1).bind fun a_10 => (xgR r_8.2 o0 10 0).bind fun a_11 => (xcv r_8.2 a_10 8).bind fun _ => (fn82 a_10 none o2 0 a_11 r_8.2).bind fun r_12 => j114_71 o0 x1 o2 r_12.1 r_12.2 else j114_71 o0 x1 o2 x3 r_8.2))
theorem j114_20_ok {xs : List Int32} {d : Nat} (hd : 5 ≤ d) {o0 : Option Nat} {x1 : Int32} {o2 : Option Nat} {x3 : Int32} {h : xH} {r : (Int32 × xH)} (hf : j114_20 o0 x1 o2 x3 h = some r) : xEv (xTa xs) d 114 (20, [xrv o0, .int x1, xrv o2, .int x3], [], h) (some (.int r.1), r.2) := by
  unfold j114_20 at hf
  refine sh_aload (i' := 0) (n := 1) i114_20 (Or.inr ⟨rfl, by decide⟩) rfl ?_
  obtain ⟨a_1, ea_1, hf⟩ := x_bind hf
  refine sh_getR i114_21 f114_14 ea_1 ?_
  refine ev_do i114_24 rfl ?_
  refine ev_do i114_26 rfl ?_
  obtain ⟨_, eu_15, hf⟩ := x_bind hf
  obtain ⟨r_2, er_2, hf⟩ := x_bind hf
  refine sh_inv (as := [.int 90, .int 65]) (z := (some (.int r_2.1), r_2.2)) i114_28 v114_77 (Or.inl ⟨by decide, rfl⟩) m108 rfl (Nat.le_of_ble_eq_true rfl) eu_15 (fn108_call (by omega) er_2) ?_
  refine ev_if (t := 71) i114_31 rfl (fun c_3 => ?_) (fun c_3 => ?_)
  · replace hf := x_pos (show r_2.1 = 0 from c_3) hf
    exact j114_71_ok hd hf
  · replace hf := x_neg (show ¬ r_2.1 = 0 from c_3) hf
    refine sh_aload (i' := 0) (n := 1) i114_34 (Or.inr ⟨rfl, by decide⟩) rfl ?_
    obtain ⟨a_4, ea_4, hf⟩ := x_bind hf
    refine sh_getR i114_35 f114_21 ea_4 ?_
    refine sh_aload (i' := 0) (n := 1) i114_38 (Or.inr ⟨rfl, by decide⟩) rfl ?_
    obtain ⟨a_5, ea_5, hf⟩ := x_bind hf
    refine sh_getR i114_39 f114_14 ea_5 ?_
    refine ev_do i114_42 rfl ?_
    refine sh_aload (i' := 0) (n := 1) i114_43 (Or.inr ⟨rfl, by decide⟩) rfl ?_
    obtain ⟨a_6, ea_6, hf⟩ := x_bind hf
    refine sh_getR i114_44 f114_14 ea_6 ?_
    obtain ⟨v_7, ev_7, hf⟩ := x_bind hf
    refine sh_getI i114_47 f114_63 ev_7 ?_
    obtain ⟨_, eu_14, hf⟩ := x_bind hf
    obtain ⟨r_8, er_8, hf⟩ := x_bind hf
    refine sh_inv (as := [.int v_7, .int 0, xrv a_5]) (z := (some (xrv r_8.1), r_8.2)) i114_50 v114_81 (Or.inl ⟨by decide, rfl⟩) m87 rfl (Nat.le_of_ble_eq_true rfl) eu_14 (fn87_call (by omega) er_8) ?_
    refine sh_nnul (t := 71) i114_53 rfl (fun c_9 => ?_) (fun c_9 => ?_)
    · replace hf := x_pos c_9 hf
      refine sh_aload (i' := 0) (n := 1) i114_56 (Or.inr ⟨rfl, by decide⟩) rfl ?_
      obtain ⟨a_10, ea_10, hf⟩ := x_bind hf
      refine sh_getR i114_57 f114_21 ea_10 ?_
      refine sh_cnull i114_60 ?_
      refine sh_aload (i' := 2) (n := 1) i114_61 (Or.inr ⟨rfl, by decide⟩) rfl ?_
      refine ev_do i114_62 rfl ?_
      refine sh_aload (i' := 0) (n := 1) i114_63 (Or.inr ⟨rfl, by decide⟩) rfl ?_
      obtain ⟨a_11, ea_11, hf⟩ := x_bind hf
      refine sh_getR i114_64 f114_14 ea_11 ?_
      obtain ⟨_, eu_13, hf⟩ := x_bind hf
      obtain ⟨r_12, er_12, hf⟩ := x_bind hf
      refine sh_inv (as := [xrv a_11, .int 0, xrv o2, xrv none]) (z := (some (.int r_12.1), r_12.2)) i114_67 v114_85 (Or.inl ⟨by decide, rfl⟩) m82 rfl (Nat.le_of_ble_eq_true rfl) eu_13 (fn82_call (by omega) er_12) ?_
      refine sh_istore (i' := 3) (n := 1) i114_70 (Or.inr ⟨rfl, by decide⟩) (xokst_of (Nat.le_of_ble_eq_true rfl) (xrv_cat (o2))) ?_
      exact j114_71_ok hd hf
    · replace hf := x_neg c_9 hf
      exact j114_71_ok hd hf
def fn114 (o0 : Option Nat) (x1 : Int32) (h : xH) : Option (Int32 × xH) := (xgR h o0 10 1).bind fun a_1 => (xcv h a_1 8).bind fun _ => (fn84 a_1 x1 h).bind fun r_2 => (if r_2.1 = none then (if x1 = (-1) then j114_20 o0 x1 r_2.1 (-1) r_2.2 else j114_71 o0 x1 r_2.1 (-1) r_2.2) else j114_20 o0 x1 r_2.1 (-1) r_2.2)
theorem fn114_call {xs : List Int32} {d : Nat} (hd : 6 ≤ d) {o0 : Option Nat} {x1 : Int32} {h : xH} {r : (Int32 × xH)} (hf : fn114 o0 x1 h = some r) : xCall (xTa xs) d 114 [xrv o0, .int x1] h (some (.int r.1), r.2) := by
  obtain ⟨d, rfl⟩ : ∃ d2, d = d2 + 1 := ⟨d - 1, by omega⟩
  replace hd : 5 ≤ d := by omega
  refine call_of2 (fl := [xrv o0, .int x1]) (Ls := [xrv o0, .int x1, .float 0, .float 0]) m114 (by simp [xfl, xrv_cat, xc_i, xc_j, xc_a, xc_f]) (Nat.le_of_ble_eq_true rfl) rfl ?_
  unfold fn114 at hf
  refine sh_aload (i' := 0) (n := 1) i114_0 (Or.inr ⟨rfl, by decide⟩) rfl ?_
  obtain ⟨a_1, ea_1, hf⟩ := x_bind hf
  refine sh_getR i114_1 f114_21 ea_1 ?_
  refine ev_do i114_4 rfl ?_
  obtain ⟨_, eu_5, hf⟩ := x_bind hf
  obtain ⟨r_2, er_2, hf⟩ := x_bind hf
  refine sh_inv (as := [.int x1]) (z := (some (xrv r_2.1), r_2.2)) i114_5 v114_73 (Or.inl ⟨by decide, rfl⟩) m84 rfl (Nat.le_of_ble_eq_true rfl) eu_5 (fn84_call (by omega) er_2) ?_
  refine sh_astore (i' := 2) (n := 1) i114_8 (Or.inr ⟨rfl, by decide⟩) (xokst_of (Nat.le_of_ble_eq_true rfl) rfl) ?_
  refine ev_do i114_9 rfl ?_
  refine sh_istore (i' := 3) (n := 1) i114_10 (Or.inr ⟨rfl, by decide⟩) (xokst_of (Nat.le_of_ble_eq_true rfl) (xrv_cat (r_2.1))) ?_
  refine sh_aload (i' := 2) (n := 1) i114_11 (Or.inr ⟨rfl, by decide⟩) rfl ?_
  refine sh_nnul (t := 20) i114_12 rfl (fun c_3 => ?_) (fun c_3 => ?_)
  · replace hf := x_pos c_3 hf
    refine ev_do i114_15 rfl ?_
    refine ev_do i114_16 rfl ?_
    refine ev_icmp (t := 71) i114_17 rfl (fun c_4 => ?_) (fun c_4 => ?_)
    · replace hf := x_neg (show ¬ x1 = (-1) from c_4) hf
      exact j114_71_ok hd hf
    · replace hf := x_pos (show x1 = (-1) from Decidable.byContradiction (fun h9 => c_4 h9)) hf
      exact j114_20_ok hd hf
  · replace hf := x_neg c_3 hf
    exact j114_20_ok hd hf
end
section
def j115_69  (o0 : Option Nat) (x1 : Int32) (x2 : Int32) (o3 : Option Nat) (x4 : Int32) (h : xH) : Option (Int32 × xH) := (xgR h o0 10 0).bind fun a_1 => (xcv h a_1 9).bind fun _ => (fn101 a_1 0 h).bind fun h_2 => some (x4, h_2)
theorem j115_69_ok {xs : List Int32} {d : Nat} (hd : 5 ≤ d) {o0 : Option Nat} {x1 : Int32} {x2 : Int32} {o3 : Option Nat} {x4 : Int32} {h : xH} {r : (Int32 × xH)} (hf : j115_69 o0 x1 x2 o3 x4 h = some r) : xEv (xTa xs) d 115 (69, [xrv o0, .int x1, .int x2, xrv o3, .int x4], [], h) (some (.int r.1), r.2) := by
  unfold j115_69 at hf
  refine sh_aload (i' := 0) (n := 1) i115_69 (Or.inr ⟨rfl, by decide⟩) rfl ?_
  obtain ⟨a_1, ea_1, hf⟩ := x_bind hf
  refine sh_getR i115_70 f115_14 ea_1 ?_
  refine ev_do i115_73 rfl ?_
  obtain ⟨_, eu_3, hf⟩ := x_bind hf
  obtain ⟨h_2, eh_2, hf⟩ := x_bind hf
  refine sh_inv (as := [.int 0]) (z := (none, h_2)) i115_74 v115_70 (Or.inl ⟨by decide, rfl⟩) m101 rfl (Nat.le_of_ble_eq_true rfl) eu_3 (fn101_call (by omega) eh_2) ?_
  refine ev_do i115_77 rfl ?_
  obtain rfl := Option.some.inj hf
  exact sh_iret i115_79 m115 rfl rfl
def fn115 (o0 : Option Nat) (x1 : Int32) (x2 : Int32) (h : xH) : Option (Int32 × xH) := (xgR h o0 10 1).bind fun a_1 => (xcv h a_1 8).bind fun _ => (fn84 a_1 x1 h).bind fun r_2 => (if r_2.1 = none then j115_69 o0 x1 x2 r_2.1 (-1) r_2.2 else (xgR r_2.2 o0 10 0).bind fun a_4 => (xcv r_2.2 a_4 9).bind fun _ => (fn108 a_4 97 122 r_2.2).bind fun r_5 => (if r_5.1 = 0 then j115_69 o0 x1 x2 r_2.1 (-1) r_5.2 else (xgR r_5.2 o0 10 1).bind fun a_7 => (xgR r_5.2 o0 10 0).bind fun a_8 => (xgR r_5.2 o0 10 0).bind fun a_9 => (xgI r_5.2 a_9 9 1).bind fun v_10 => (xcv r_5.2 a_7 8).bind fun _ => (fn88 a_7 r_2.1 a_8 0 v_10 r_5.2).bind fun r_11 => (if r_11.1 = none then (xgR r_11.2 o0 10 1).bind fun a_13 => (xgR r_11.2 o0 10 0).bind fun a_14 => (xcv r_11.2 a_13 8).bind fun _ => (fn82 a_13 r_2.1 none x2 a_14 r_11.2).bind fun r_15 => j115_69 o0 x1 x2 r_2.1 r_15.1 r_15.2 else j115_69 o0 x1 x2 r_2.1 (-1) r_11.2)))
theorem fn115_call {xs : List Int32} {d : Nat} (hd : 6 ≤ d) {o0 : Option Nat} {x1 : Int32} {x2 : Int32} {h : xH} {r : (Int32 × xH)} (hf : fn115 o0 x1 x2 h = some r) : xCall (xTa xs) d 115 [xrv o0, .int x1, .int x2] h (some (.int r.1), r.2) := by
  obtain ⟨d, rfl⟩ : ∃ d2, d = d2 + 1 := ⟨d - 1, by omega⟩
  replace hd : 5 ≤ d := by omega
  refine call_of2 (fl := [xrv o0, .int x1, .int x2]) (Ls := [xrv o0, .int x1, .int x2, .float 0, .float 0]) m115 (by simp [xfl, xrv_cat, xc_i, xc_j, xc_a, xc_f]) (Nat.le_of_ble_eq_true rfl) rfl ?_
  unfold fn115 at hf
  refine sh_aload (i' := 0) (n := 1) i115_0 (Or.inr ⟨rfl, by decide⟩) rfl ?_
  obtain ⟨a_1, ea_1, hf⟩ := x_bind hf
  refine sh_getR i115_1 f115_21 ea_1 ?_
  refine ev_do i115_4 rfl ?_
  obtain ⟨_, eu_19, hf⟩ := x_bind hf
  obtain ⟨r_2, er_2, hf⟩ := x_bind hf
  refine sh_inv (as := [.int x1]) (z := (some (xrv r_2.1), r_2.2)) i115_5 v115_73 (Or.inl ⟨by decide, rfl⟩) m84 rfl (Nat.le_of_ble_eq_true rfl) eu_19 (fn84_call (by omega) er_2) ?_
  refine sh_astore (i' := 3) (n := 1) i115_8 (Or.inr ⟨rfl, by decide⟩) (xokst_of (Nat.le_of_ble_eq_true rfl) rfl) ?_
  refine ev_do i115_9 rfl ?_
  refine sh_istore (i' := 4) (n := 2) i115_10 (Or.inl rfl) (xokst_of (Nat.le_of_ble_eq_true rfl) (xrv_cat (r_2.1))) ?_
  refine sh_aload (i' := 3) (n := 1) i115_12 (Or.inr ⟨rfl, by decide⟩) rfl ?_
  refine sh_null (t := 69) i115_13 rfl (fun c_3 => ?_) (fun c_3 => ?_)
  · replace hf := x_pos c_3 hf
    exact j115_69_ok hd hf
  · replace hf := x_neg c_3 hf
    refine sh_aload (i' := 0) (n := 1) i115_16 (Or.inr ⟨rfl, by decide⟩) rfl ?_
    obtain ⟨a_4, ea_4, hf⟩ := x_bind hf
    refine sh_getR i115_17 f115_14 ea_4 ?_
    refine ev_do i115_20 rfl ?_
    refine ev_do i115_22 rfl ?_
    obtain ⟨_, eu_18, hf⟩ := x_bind hf
    obtain ⟨r_5, er_5, hf⟩ := x_bind hf
    refine sh_inv (as := [.int 122, .int 97]) (z := (some (.int r_5.1), r_5.2)) i115_24 v115_77 (Or.inl ⟨by decide, rfl⟩) m108 rfl (Nat.le_of_ble_eq_true rfl) eu_18 (fn108_call (by omega) er_5) ?_
    refine ev_if (t := 69) i115_27 rfl (fun c_6 => ?_) (fun c_6 => ?_)
    · replace hf := x_pos (show r_5.1 = 0 from c_6) hf
      exact j115_69_ok hd hf
    · replace hf := x_neg (show ¬ r_5.1 = 0 from c_6) hf
      refine sh_aload (i' := 0) (n := 1) i115_30 (Or.inr ⟨rfl, by decide⟩) rfl ?_
      obtain ⟨a_7, ea_7, hf⟩ := x_bind hf
      refine sh_getR i115_31 f115_21 ea_7 ?_
      refine sh_aload (i' := 3) (n := 1) i115_34 (Or.inr ⟨rfl, by decide⟩) rfl ?_
      refine sh_aload (i' := 0) (n := 1) i115_35 (Or.inr ⟨rfl, by decide⟩) rfl ?_
      obtain ⟨a_8, ea_8, hf⟩ := x_bind hf
      refine sh_getR i115_36 f115_14 ea_8 ?_
      refine ev_do i115_39 rfl ?_
      refine sh_aload (i' := 0) (n := 1) i115_40 (Or.inr ⟨rfl, by decide⟩) rfl ?_
      obtain ⟨a_9, ea_9, hf⟩ := x_bind hf
      refine sh_getR i115_41 f115_14 ea_9 ?_
      obtain ⟨v_10, ev_10, hf⟩ := x_bind hf
      refine sh_getI i115_44 f115_63 ev_10 ?_
      obtain ⟨_, eu_17, hf⟩ := x_bind hf
      obtain ⟨r_11, er_11, hf⟩ := x_bind hf
      refine sh_inv (as := [.int v_10, .int 0, xrv a_8, xrv r_2.1]) (z := (some (xrv r_11.1), r_11.2)) i115_47 v115_89 (Or.inl ⟨by decide, rfl⟩) m88 rfl (Nat.le_of_ble_eq_true rfl) eu_17 (fn88_call (by omega) er_11) ?_
      refine sh_nnul (t := 69) i115_50 rfl (fun c_12 => ?_) (fun c_12 => ?_)
      · replace hf := x_pos c_12 hf
        refine sh_aload (i' := 0) (n := 1) i115_53 (Or.inr ⟨rfl, by decide⟩) rfl ?_
        obtain ⟨a_13, ea_13, hf⟩ := x_bind hf
        refine sh_getR i115_54 f115_21 ea_13 ?_
        refine sh_aload (i' := 3) (n := 1) i115_57 (Or.inr ⟨rfl, by decide⟩) rfl ?_
        refine sh_cnull i115_58 ?_
        refine ev_do i115_59 rfl ?_
        refine sh_aload (i' := 0) (n := 1) i115_60 (Or.inr ⟨rfl, by decide⟩) rfl ?_
        obtain ⟨a_14, ea_14, hf⟩ := x_bind hf
        refine sh_getR i115_61 f115_14 ea_14 ?_
        obtain ⟨_, eu_16, hf⟩ := x_bind hf
        obtain ⟨r_15, er_15, hf⟩ := x_bind hf
        refine sh_inv (as := [xrv a_14, .int x2, xrv none, xrv r_2.1]) (z := (some (.int r_15.1), r_15.2)) i115_64 v115_85 (Or.inl ⟨by decide, rfl⟩) m82 rfl (Nat.le_of_ble_eq_true rfl) eu_16 (fn82_call (by omega) er_15) ?_
        refine sh_istore (i' := 4) (n := 2) i115_67 (Or.inl rfl) (xokst_of (Nat.le_of_ble_eq_true rfl) (xrv_cat (r_2.1))) ?_
        exact j115_69_ok hd hf
      · replace hf := x_neg c_12 hf
        exact j115_69_ok hd hf
end
section
def j116_64  (o0 : Option Nat) (x1 : Int32) (o2 : Option Nat) (x3 : Int32) (h : xH) : Option (Int32 × xH) := (xgR h o0 10 0).bind fun a_1 => (xcv h a_1 9).bind fun _ => (fn101 a_1 0 h).bind fun h_2 => some (x3, h_2)
theorem j116_64_ok {xs : List Int32} {d : Nat} (hd : 5 ≤ d) {o0 : Option Nat} {x1 : Int32} {o2 : Option Nat} {x3 : Int32} {h : xH} {r : (Int32 × xH)} (hf : j116_64 o0 x1 o2 x3 h = some r) : xEv (xTa xs) d 116 (64, [xrv o0, .int x1, xrv o2, .int x3], [], h) (some (.int r.1), r.2) := by
  unfold j116_64 at hf
  refine sh_aload (i' := 0) (n := 1) i116_64 (Or.inr ⟨rfl, by decide⟩) rfl ?_
  obtain ⟨a_1, ea_1, hf⟩ := x_bind hf
  refine sh_getR i116_65 f116_14 ea_1 ?_
  refine ev_do i116_68 rfl ?_
  obtain ⟨_, eu_3, hf⟩ := x_bind hf
  obtain ⟨h_2, eh_2, hf⟩ := x_bind hf
  refine sh_inv (as := [.int 0]) (z := (none, h_2)) i116_69 v116_70 (Or.inl ⟨by decide, rfl⟩) m101 rfl (Nat.le_of_ble_eq_true rfl) eu_3 (fn101_call (by omega) eh_2) ?_
  refine ev_do i116_72 rfl ?_
  obtain rfl := Option.some.inj hf
  exact sh_iret i116_73 m116 rfl rfl
def fn116 (o0 : Option Nat) (x1 : Int32) (h : xH) : Option (Int32 × xH) := (xgR h o0 10 1).bind fun a_1 => (xcv h a_1 8).bind fun _ => (fn83 a_1 x1 h).bind fun r_2 => (if r_2.1 = none then j116_64 o0 x1 r_2.1 (-1) r_2.2 else (xcv r_2.2 r_2.1 2).bind fun _ => (fn12 r_2.1 r_2.2).bind fun r_4 => (if r_4.1 = 0 then (xgR r_4.2 o0 10 0).bind fun a_6 => (xcv r_4.2 a_6 9).bind fun _ => (fn108 a_6 97 122 r_4.2).bind fun r_7 => (if r_7.1 = 0 then j116_64 o0 x1 r_2.1 (-1) r_7.2 else (xgR r_7.2 o0 10 0).bind fun a_9 => (xgR r_7.2 o0 10 0).bind fun a_10 => (xgI r_7.2 a_10 9 1).bind fun v_11 => (xcv r_7.2 r_2.1 2).bind fun _ => (fn16 r_2.1 a_9 0 v_11 r_7.2).bind fun r_12 => (if r_12.1 = 0 then (xgR r_12.2 o0 10 0).bind fun a_14 => (xcv r_12.2 r_2.1 2).bind fun _ => (fn17 r_2.1 a_14 r_12.2).bind fun r_15 => j116_64 o0 x1 r_2.1 r_15.1 r_15.2 else j116_64 o0 x1 r_2.1 (-1) r_12.2)) else j116_64 o0 x1 r_2.1 (-1) r_4.2))
theorem fn116_call {xs : List Int32} {d : Nat} (hd : 6 ≤ d) {o0 : Option Nat} {x1 : Int32} {h : xH} {r : (Int32 × xH)} (hf : fn116 o0 x1 h = some r) : xCall (xTa xs) d 116 [xrv o0, .int x1] h (some (.int r.1), r.2) := by
  obtain ⟨d, rfl⟩ : ∃ d2, d = d2 + 1 := ⟨d - 1, by omega⟩
  replace hd : 5 ≤ d := by omega
  refine call_of2 (fl := [xrv o0, .int x1]) (Ls := [xrv o0, .int x1, .float 0, .float 0]) m116 (by simp [xfl, xrv_cat, xc_i, xc_j, xc_a, xc_f]) (Nat.le_of_ble_eq_true rfl) rfl ?_
  unfold fn116 at hf
  refine sh_aload (i' := 0) (n := 1) i116_0 (Or.inr ⟨rfl, by decide⟩) rfl ?_
  obtain ⟨a_1, ea_1, hf⟩ := x_bind hf
  refine sh_getR i116_1 f116_21 ea_1 ?_
  refine ev_do i116_4 rfl ?_
  obtain ⟨_, eu_20, hf⟩ := x_bind hf
  obtain ⟨r_2, er_2, hf⟩ := x_bind hf
  refine sh_inv (as := [.int x1]) (z := (some (xrv r_2.1), r_2.2)) i116_5 v116_93 (Or.inl ⟨by decide, rfl⟩) m83 rfl (Nat.le_of_ble_eq_true rfl) eu_20 (fn83_call (by omega) er_2) ?_
  refine sh_astore (i' := 2) (n := 1) i116_8 (Or.inr ⟨rfl, by decide⟩) (xokst_of (Nat.le_of_ble_eq_true rfl) rfl) ?_
  refine ev_do i116_9 rfl ?_
  refine sh_istore (i' := 3) (n := 1) i116_10 (Or.inr ⟨rfl, by decide⟩) (xokst_of (Nat.le_of_ble_eq_true rfl) (xrv_cat (r_2.1))) ?_
  refine sh_aload (i' := 2) (n := 1) i116_11 (Or.inr ⟨rfl, by decide⟩) rfl ?_
  refine sh_null (t := 64) i116_12 rfl (fun c_3 => ?_) (fun c_3 => ?_)
  · replace hf := x_pos c_3 hf
    exact j116_64_ok hd hf
  · replace hf := x_neg c_3 hf
    refine sh_aload (i' := 2) (n := 1) i116_15 (Or.inr ⟨rfl, by decide⟩) rfl ?_
    obtain ⟨_, eu_19, hf⟩ := x_bind hf
    obtain ⟨r_4, er_4, hf⟩ := x_bind hf
    refine sh_inv (as := []) (z := (some (.int r_4.1), r_4.2)) i116_16 v116_96 (Or.inl ⟨by decide, rfl⟩) m12 rfl (Nat.le_of_ble_eq_true rfl) eu_19 (fn12_call (by omega) er_4) ?_
    refine ev_if (t := 64) i116_19 rfl (fun c_5 => ?_) (fun c_5 => ?_)
    · replace hf := x_neg (show ¬ r_4.1 = 0 from c_5) hf
      exact j116_64_ok hd hf
    · replace hf := x_pos (show r_4.1 = 0 from Decidable.byContradiction (fun h9 => c_5 h9)) hf
      refine sh_aload (i' := 0) (n := 1) i116_22 (Or.inr ⟨rfl, by decide⟩) rfl ?_
      obtain ⟨a_6, ea_6, hf⟩ := x_bind hf
      refine sh_getR i116_23 f116_14 ea_6 ?_
      refine ev_do i116_26 rfl ?_
      refine ev_do i116_28 rfl ?_
      obtain ⟨_, eu_18, hf⟩ := x_bind hf
      obtain ⟨r_7, er_7, hf⟩ := x_bind hf
      refine sh_inv (as := [.int 122, .int 97]) (z := (some (.int r_7.1), r_7.2)) i116_30 v116_77 (Or.inl ⟨by decide, rfl⟩) m108 rfl (Nat.le_of_ble_eq_true rfl) eu_18 (fn108_call (by omega) er_7) ?_
      refine ev_if (t := 64) i116_33 rfl (fun c_8 => ?_) (fun c_8 => ?_)
      · replace hf := x_pos (show r_7.1 = 0 from c_8) hf
        exact j116_64_ok hd hf
      · replace hf := x_neg (show ¬ r_7.1 = 0 from c_8) hf
        refine sh_aload (i' := 2) (n := 1) i116_36 (Or.inr ⟨rfl, by decide⟩) rfl ?_
        refine sh_aload (i' := 0) (n := 1) i116_37 (Or.inr ⟨rfl, by decide⟩) rfl ?_
        obtain ⟨a_9, ea_9, hf⟩ := x_bind hf
        refine sh_getR i116_38 f116_14 ea_9 ?_
        refine ev_do i116_41 rfl ?_
        refine sh_aload (i' := 0) (n := 1) i116_42 (Or.inr ⟨rfl, by decide⟩) rfl ?_
        obtain ⟨a_10, ea_10, hf⟩ := x_bind hf
        refine sh_getR i116_43 f116_14 ea_10 ?_
        obtain ⟨v_11, ev_11, hf⟩ := x_bind hf
        refine sh_getI i116_46 f116_63 ev_11 ?_
        obtain ⟨_, eu_17, hf⟩ := x_bind hf
        obtain ⟨r_12, er_12, hf⟩ := x_bind hf
        refine sh_inv (as := [.int v_11, .int 0, xrv a_9]) (z := (some (.int r_12.1), r_12.2)) i116_49 v116_102 (Or.inl ⟨by decide, rfl⟩) m16 rfl (Nat.le_of_ble_eq_true rfl) eu_17 (fn16_call (by omega) er_12) ?_
        refine ev_if (t := 64) i116_52 rfl (fun c_13 => ?_) (fun c_13 => ?_)
        · replace hf := x_neg (show ¬ r_12.1 = 0 from c_13) hf
          exact j116_64_ok hd hf
        · replace hf := x_pos (show r_12.1 = 0 from Decidable.byContradiction (fun h9 => c_13 h9)) hf
          refine sh_aload (i' := 2) (n := 1) i116_55 (Or.inr ⟨rfl, by decide⟩) rfl ?_
          refine sh_aload (i' := 0) (n := 1) i116_56 (Or.inr ⟨rfl, by decide⟩) rfl ?_
          obtain ⟨a_14, ea_14, hf⟩ := x_bind hf
          refine sh_getR i116_57 f116_14 ea_14 ?_
          obtain ⟨_, eu_16, hf⟩ := x_bind hf
          obtain ⟨r_15, er_15, hf⟩ := x_bind hf
          refine sh_inv (as := [xrv a_14]) (z := (some (.int r_15.1), r_15.2)) i116_60 v116_106 (Or.inl ⟨by decide, rfl⟩) m17 rfl (Nat.le_of_ble_eq_true rfl) eu_16 (fn17_call (by omega) er_15) ?_
          refine sh_istore (i' := 3) (n := 1) i116_63 (Or.inr ⟨rfl, by decide⟩) (xokst_of (Nat.le_of_ble_eq_true rfl) (xrv_cat (r_2.1))) ?_
          exact j116_64_ok hd hf
end
section
def j118_27  (o0 : Option Nat) (o1 : Option Nat) (o2 : Option Nat) (s0 : Option Nat) (s1 : Option Nat) (h : xH) : Option (Int32 × xH) := (xpF h s0 10 5 (.object "DocFormat$Comment") (xrv s1)).bind fun h_1 => (xpF h_1 o1 2 7 (.object "DocFormat$Comment") (xrv o2)).bind fun h_2 => (xpF h_2 o1 2 8 .boolean (.int 1)).bind fun h_3 => (xgI h_3 o2 1 3).bind fun v_4 => some (v_4, h_3)
theorem j118_27_ok {xs : List Int32} {d : Nat} (hd : 3 ≤ d) {o0 : Option Nat} {o1 : Option Nat} {o2 : Option Nat} {s0 : Option Nat} {s1 : Option Nat} {h : xH} {r : (Int32 × xH)} (hf : j118_27 o0 o1 o2 s0 s1 h = some r) : xEv (xTa xs) d 118 (27, [xrv o0, xrv o1, xrv o2], [xrv s1, xrv s0], h) (some (.int r.1), r.2) := by
  unfold j118_27 at hf
  obtain ⟨h_1, eh_1, hf⟩ := x_bind hf
  refine sh_put i118_27 f118_49 (by decide) rfl eh_1 ?_
  refine sh_aload (i' := 1) (n := 1) i118_30 (Or.inr ⟨rfl, by decide⟩) rfl ?_
  refine sh_aload (i' := 2) (n := 1) i118_31 (Or.inr ⟨rfl, by decide⟩) rfl ?_
  obtain ⟨h_2, eh_2, hf⟩ := x_bind hf
  refine sh_put i118_32 f118_128 (by decide) rfl eh_2 ?_
  refine sh_aload (i' := 1) (n := 1) i118_35 (Or.inr ⟨rfl, by decide⟩) rfl ?_
  refine ev_do i118_36 rfl ?_
  obtain ⟨h_3, eh_3, hf⟩ := x_bind hf
  refine sh_put i118_37 f118_131 (by decide) rfl eh_3 ?_
  refine sh_aload (i' := 2) (n := 1) i118_40 (Or.inr ⟨rfl, by decide⟩) rfl ?_
  obtain ⟨v_4, ev_4, hf⟩ := x_bind hf
  refine sh_getI i118_41 f118_135 ev_4 ?_
  obtain rfl := Option.some.inj hf
  exact sh_iret i118_44 m118 rfl rfl
def fn118 (o0 : Option Nat) (o1 : Option Nat) (h : xH) : Option (Int32 × xH) := (xgR h o0 10 5).bind fun a_1 => (xgR h o1 2 7).bind fun a_2 => (if a_2 = none then (some (xnew h (1, [.null, .null, .null, .int 0, .int 0, .null]))).bind fun h_4 => (xcv h_4 (some h.1) 1).bind fun _ => (fn3 (some h.1) h_4).bind fun h_5 => j118_27 o0 o1 a_1 o0 (some h.1) h_5 else (xgR h o1 2 7).bind fun a_7 => j118_27 o0 o1 a_1 o0 a_7 h)
theorem fn118_call {xs : List Int32} {d : Nat} (hd : 4 ≤ d) {o0 : Option Nat} {o1 : Option Nat} {h : xH} {r : (Int32 × xH)} (hf : fn118 o0 o1 h = some r) : xCall (xTa xs) d 118 [xrv o0, xrv o1] h (some (.int r.1), r.2) := by
  obtain ⟨d, rfl⟩ : ∃ d2, d = d2 + 1 := ⟨d - 1, by omega⟩
  replace hd : 3 ≤ d := by omega
  refine call_of2 (fl := [xrv o0, xrv o1]) (Ls := [xrv o0, xrv o1, .float 0]) m118 (by simp [xfl, xrv_cat, xc_i, xc_j, xc_a, xc_f]) (Nat.le_of_ble_eq_true rfl) rfl ?_
  unfold fn118 at hf
  refine sh_aload (i' := 0) (n := 1) i118_0 (Or.inr ⟨rfl, by decide⟩) rfl ?_
  obtain ⟨a_1, ea_1, hf⟩ := x_bind hf
  refine sh_getR i118_1 f118_49 ea_1 ?_
  refine sh_astore (i' := 2) (n := 1) i118_4 (Or.inr ⟨rfl, by decide⟩) (xokst_of (Nat.le_of_ble_eq_true rfl) (xrv_cat (o1))) ?_
  refine sh_aload (i' := 0) (n := 1) i118_5 (Or.inr ⟨rfl, by decide⟩) rfl ?_
  refine sh_aload (i' := 1) (n := 1) i118_6 (Or.inr ⟨rfl, by decide⟩) rfl ?_
  obtain ⟨a_2, ea_2, hf⟩ := x_bind hf
  refine sh_getR i118_7 f118_128 ea_2 ?_
  refine sh_nnul (t := 23) i118_10 rfl (fun c_3 => ?_) (fun c_3 => ?_)
  · replace hf := x_pos c_3 hf
    obtain ⟨h_4, eh_4, hf⟩ := x_bind hf
    refine sh_new (fs := [.null, .null, .null, .int 0, .int 0, .null]) i118_13 c118_46 (by decide) rfl ?_
    rw [Option.some.inj eh_4]
    refine sh_dup i118_16 (xrv_cat (some h.1)) ?_
    obtain ⟨_, eu_6, hf⟩ := x_bind hf
    obtain ⟨h_5, eh_5, hf⟩ := x_bind hf
    refine sh_inv (as := []) (z := (none, h_5)) i118_17 v118_48 (Or.inr ⟨by decide, rfl⟩) m3 rfl (by simp [xcat, xrv_cat, xc_i, xc_j, xc_a, xc_f]) eu_6 (fn3_call (by omega) eh_5) ?_
    refine sh_goto (t := 27) i118_20 rfl ?_
    exact j118_27_ok hd hf
  · replace hf := x_neg c_3 hf
    refine sh_aload (i' := 1) (n := 1) i118_23 (Or.inr ⟨rfl, by decide⟩) rfl ?_
    obtain ⟨a_7, ea_7, hf⟩ := x_bind hf
    refine sh_getR i118_24 f118_128 ea_7 ?_
    exact j118_27_ok hd hf
end
section
def j117_82  (o0 : Option Nat) (x1 : Int32) (o2 : Option Nat) (s0 : Int32) (h : xH) : Option (Int32 × xH) := some (s0, h)
theorem j117_82_ok {xs : List Int32} {d : Nat} (hd : 9 ≤ d) {o0 : Option Nat} {x1 : Int32} {o2 : Option Nat} {s0 : Int32} {h : xH} {r : (Int32 × xH)} (hf : j117_82 o0 x1 o2 s0 h = some r) : xEv (xTa xs) d 117 (82, [xrv o0, .int x1, xrv o2], [.int s0], h) (some (.int r.1), r.2) := by
  unfold j117_82 at hf
  obtain rfl := Option.some.inj hf
  exact sh_iret i117_82 m117 rfl rfl
def fn117 (o0 : Option Nat) (x1 : Int32) (h : xH) : Option (Int32 × xH) := (xgR h o0 10 1).bind fun a_1 => (xcv h a_1 8).bind fun _ => (fn83 a_1 x1 h).bind fun r_2 => (if r_2.1 = none then (xgR r_2.2 o0 10 0).bind fun a_4 => (xcv r_2.2 a_4 9).bind fun _ => (fn101 a_4 0 r_2.2).bind fun h_5 => some ((-1), h_5) else (xgR r_2.2 o0 10 5).bind fun a_7 => (xgR r_2.2 o0 10 0).bind fun a_8 => (xcv r_2.2 a_7 1).bind fun _ => (fn4 a_7 a_8 r_2.1 r_2.2).bind fun h_9 => (xgR h_9 o0 10 0).bind fun a_10 => (xcv h_9 a_10 9).bind fun _ => (fn101 a_10 0 h_9).bind fun h_11 => (xgR h_11 o0 10 2).bind fun a_12 => (xgR h_11 o0 10 5).bind fun a_13 => (xcv h_11 a_12 7).bind fun _ => (fn61 a_12 a_13 h_11).bind fun h_14 => (xgR h_14 o0 10 2).bind fun a_15 => (xgI h_14 a_15 7 5).bind fun v_16 => (if v_16 = 0 then (xcv h_14 o0 10).bind fun _ => (fn118 o0 r_2.1 h_14).bind fun r_18 => j117_82 o0 x1 r_2.1 r_18.1 r_18.2 else (xgR h_14 o0 10 2).bind fun a_20 => (xgI h_14 a_20 7 6).bind fun v_21 => j117_82 o0 x1 r_2.1 ((-10) - v_21) h_14))
theorem fn117_call {xs : List Int32} {d : Nat} (hd : 10 ≤ d) {o0 : Option Nat} {x1 : Int32} {h : xH} {r : (Int32 × xH)} (hf : fn117 o0 x1 h = some r) : xCall (xTa xs) d 117 [xrv o0, .int x1] h (some (.int r.1), r.2) := by
  obtain ⟨d, rfl⟩ : ∃ d2, d = d2 + 1 := ⟨d - 1, by omega⟩
  replace hd : 9 ≤ d := by omega
  refine call_of2 (fl := [xrv o0, .int x1]) (Ls := [xrv o0, .int x1, .float 0]) m117 (by simp [xfl, xrv_cat, xc_i, xc_j, xc_a, xc_f]) (Nat.le_of_ble_eq_true rfl) rfl ?_
  unfold fn117 at hf
  refine sh_aload (i' := 0) (n := 1) i117_0 (Or.inr ⟨rfl, by decide⟩) rfl ?_
  obtain ⟨a_1, ea_1, hf⟩ := x_bind hf
  refine sh_getR i117_1 f117_21 ea_1 ?_
  refine ev_do i117_4 rfl ?_
  obtain ⟨_, eu_25, hf⟩ := x_bind hf
  obtain ⟨r_2, er_2, hf⟩ := x_bind hf
  refine sh_inv (as := [.int x1]) (z := (some (xrv r_2.1), r_2.2)) i117_5 v117_93 (Or.inl ⟨by decide, rfl⟩) m83 rfl (Nat.le_of_ble_eq_true rfl) eu_25 (fn83_call (by omega) er_2) ?_
  refine sh_astore (i' := 2) (n := 1) i117_8 (Or.inr ⟨rfl, by decide⟩) (xokst_of (Nat.le_of_ble_eq_true rfl) rfl) ?_
  refine sh_aload (i' := 2) (n := 1) i117_9 (Or.inr ⟨rfl, by decide⟩) rfl ?_
  refine sh_nnul (t := 23) i117_10 rfl (fun c_3 => ?_) (fun c_3 => ?_)
  · replace hf := x_pos c_3 hf
    refine sh_aload (i' := 0) (n := 1) i117_13 (Or.inr ⟨rfl, by decide⟩) rfl ?_
    obtain ⟨a_4, ea_4, hf⟩ := x_bind hf
    refine sh_getR i117_14 f117_14 ea_4 ?_
    refine ev_do i117_17 rfl ?_
    obtain ⟨_, eu_6, hf⟩ := x_bind hf
    obtain ⟨h_5, eh_5, hf⟩ := x_bind hf
    refine sh_inv (as := [.int 0]) (z := (none, h_5)) i117_18 v117_70 (Or.inl ⟨by decide, rfl⟩) m101 rfl (Nat.le_of_ble_eq_true rfl) eu_6 (fn101_call (by omega) eh_5) ?_
    refine ev_do i117_21 rfl ?_
    obtain rfl := Option.some.inj hf
    exact sh_iret i117_22 m117 rfl rfl
  · replace hf := x_neg c_3 hf
    refine sh_aload (i' := 0) (n := 1) i117_23 (Or.inr ⟨rfl, by decide⟩) rfl ?_
    obtain ⟨a_7, ea_7, hf⟩ := x_bind hf
    refine sh_getR i117_24 f117_49 ea_7 ?_
    refine sh_aload (i' := 0) (n := 1) i117_27 (Or.inr ⟨rfl, by decide⟩) rfl ?_
    obtain ⟨a_8, ea_8, hf⟩ := x_bind hf
    refine sh_getR i117_28 f117_14 ea_8 ?_
    refine sh_aload (i' := 2) (n := 1) i117_31 (Or.inr ⟨rfl, by decide⟩) rfl ?_
    obtain ⟨_, eu_24, hf⟩ := x_bind hf
    obtain ⟨h_9, eh_9, hf⟩ := x_bind hf
    refine sh_inv (as := [xrv r_2.1, xrv a_8]) (z := (none, h_9)) i117_32 v117_110 (Or.inl ⟨by decide, rfl⟩) m4 rfl (Nat.le_of_ble_eq_true rfl) eu_24 (fn4_call (by omega) eh_9) ?_
    refine sh_aload (i' := 0) (n := 1) i117_35 (Or.inr ⟨rfl, by decide⟩) rfl ?_
    obtain ⟨a_10, ea_10, hf⟩ := x_bind hf
    refine sh_getR i117_36 f117_14 ea_10 ?_
    refine ev_do i117_39 rfl ?_
    obtain ⟨_, eu_23, hf⟩ := x_bind hf
    obtain ⟨h_11, eh_11, hf⟩ := x_bind hf
    refine sh_inv (as := [.int 0]) (z := (none, h_11)) i117_40 v117_70 (Or.inl ⟨by decide, rfl⟩) m101 rfl (Nat.le_of_ble_eq_true rfl) eu_23 (fn101_call (by omega) eh_11) ?_
    refine sh_aload (i' := 0) (n := 1) i117_43 (Or.inr ⟨rfl, by decide⟩) rfl ?_
    obtain ⟨a_12, ea_12, hf⟩ := x_bind hf
    refine sh_getR i117_44 f117_28 ea_12 ?_
    refine sh_aload (i' := 0) (n := 1) i117_47 (Or.inr ⟨rfl, by decide⟩) rfl ?_
    obtain ⟨a_13, ea_13, hf⟩ := x_bind hf
    refine sh_getR i117_48 f117_49 ea_13 ?_
    obtain ⟨_, eu_22, hf⟩ := x_bind hf
    obtain ⟨h_14, eh_14, hf⟩ := x_bind hf
    refine sh_inv (as := [xrv a_13]) (z := (none, h_14)) i117_51 v117_114 (Or.inl ⟨by decide, rfl⟩) m61 rfl (Nat.le_of_ble_eq_true rfl) eu_22 (fn61_call (by omega) eh_14) ?_
    refine sh_aload (i' := 0) (n := 1) i117_54 (Or.inr ⟨rfl, by decide⟩) rfl ?_
    obtain ⟨a_15, ea_15, hf⟩ := x_bind hf
    refine sh_getR i117_55 f117_28 ea_15 ?_
    obtain ⟨v_16, ev_16, hf⟩ := x_bind hf
    refine sh_getI i117_58 f117_118 ev_16 ?_
    refine ev_if (t := 72) i117_61 rfl (fun c_17 => ?_) (fun c_17 => ?_)
    · replace hf := x_neg (show ¬ v_16 = 0 from c_17) hf
      refine ev_do i117_72 rfl ?_
      refine sh_aload (i' := 0) (n := 1) i117_74 (Or.inr ⟨rfl, by decide⟩) rfl ?_
      obtain ⟨a_20, ea_20, hf⟩ := x_bind hf
      refine sh_getR i117_75 f117_28 ea_20 ?_
      obtain ⟨v_21, ev_21, hf⟩ := x_bind hf
      refine sh_getI i117_78 f117_125 ev_21 ?_
      refine ev_do i117_81 rfl ?_
      exact j117_82_ok hd hf
    · replace hf := x_pos (show v_16 = 0 from Decidable.byContradiction (fun h9 => c_17 h9)) hf
      refine sh_aload (i' := 0) (n := 1) i117_64 (Or.inr ⟨rfl, by decide⟩) rfl ?_
      refine sh_aload (i' := 2) (n := 1) i117_65 (Or.inr ⟨rfl, by decide⟩) rfl ?_
      obtain ⟨_, eu_19, hf⟩ := x_bind hf
      obtain ⟨r_18, er_18, hf⟩ := x_bind hf
      refine sh_inv (as := [xrv r_2.1]) (z := (some (.int r_18.1), r_18.2)) i117_66 v117_121 (Or.inl ⟨by decide, rfl⟩) m118 rfl (Nat.le_of_ble_eq_true rfl) eu_19 (fn118_call (by omega) er_18) ?_
      refine sh_goto (t := 82) i117_69 rfl ?_
      exact j117_82_ok hd hf
end
