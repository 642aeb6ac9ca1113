section
def j183_147  (o0 : Option Nat) (x1 : Int32) (x2 : Int32) (x3 : Int32) (x4 : Int32) (s0 : Int32) (h : xH) : Option (Int32 × xH) := some (s0, h)
theorem j183_147_ok {xs : List Int32} {d : Nat} (hd : 3 ≤ d) {o0 : Option Nat} {x1 : Int32} {x2 : Int32} {x3 : Int32} {x4 : Int32} {s0 : Int32} {h : xH} {r : (Int32 × xH)} (hf : j183_147 o0 x1 x2 x3 x4 s0 h = some r) : xEv (xTa xs) d 183 (147, [xrv o0, .int x1, .int x2, .int x3, .int x4], [.int s0], h) (some (.int r.1), r.2) := by
  unfold j183_147 at hf
  obtain rfl := Option.some.inj hf
  exact sh_iret i183_147 m183 rfl rfl
def j183_145  (o0 : Option Nat) (x1 : Int32) (x2 : Int32) (x3 : Int32) (x4 : Int32) (h : xH) : Option (Int32 × xH) := j183_147 o0 x1 x2 x3 x4 x4 h
theorem j183_145_ok {xs : List Int32} {d : Nat} (hd : 3 ≤ d) {o0 : Option Nat} {x1 : Int32} {x2 : Int32} {x3 : Int32} {x4 : Int32} {h : xH} {r : (Int32 × xH)} (hf : j183_145 o0 x1 x2 x3 x4 h = some r) : xEv (xTa xs) d 183 (145, [xrv o0, .int x1, .int x2, .int x3, .int x4], [], h) (some (.int r.1), r.2) := by
  unfold j183_145 at hf
  refine ev_do i183_145 rfl ?_
  exact j183_147_ok hd hf
def j183_119  (o0 : Option Nat) (x1 : Int32) (x2 : Int32) (x3 : Int32) (x4 : Int32) (s0 : Int32) (h : xH) : Option (Int32 × xH) := (if x3 = 5 then (xcv h o0 11).bind fun _ => (fn168 o0 (x1 + 1) 495690081125 5 h).bind fun r_2 => (if r_2.1 = 0 then j183_145 o0 x1 x2 x3 s0 r_2.2 else j183_147 o0 x1 x2 x3 s0 6 r_2.2) else j183_145 o0 x1 x2 x3 s0 h)
theorem j183_119_ok {xs : List Int32} {d : Nat} (hd : 3 ≤ d) {o0 : Option Nat} {x1 : Int32} {x2 : Int32} {x3 : Int32} {x4 : Int32} {s0 : Int32} {h : xH} {r : (Int32 × xH)} (hf : j183_119 o0 x1 x2 x3 x4 s0 h = some r) : xEv (xTa xs) d 183 (119, [xrv o0, .int x1, .int x2, .int x3, .int x4], [.int s0], h) (some (.int r.1), r.2) := by
  unfold j183_119 at hf
  refine sh_istore (i' := 4) (n := 2) i183_119 (Or.inl rfl) (xokst_of (Nat.le_of_ble_eq_true rfl) rfl) ?_
  refine ev_do i183_121 rfl ?_
  refine ev_do i183_122 rfl ?_
  refine ev_icmp (t := 145) i183_123 rfl (fun c_1 => ?_) (fun c_1 => ?_)
  · replace hf := x_neg (show ¬ x3 = 5 from c_1) hf
    exact j183_145_ok hd hf
  · replace hf := x_pos (show x3 = 5 from Decidable.byContradiction (fun h9 => c_1 h9)) hf
    refine sh_aload (i' := 0) (n := 1) i183_126 (Or.inr ⟨rfl, by decide⟩) rfl ?_
    refine ev_do i183_127 rfl ?_
    refine ev_do i183_128 rfl ?_
    refine ev_do i183_129 rfl ?_
    refine ev_do i183_130 (show xpush? 3 ((xtJ (xTa xs) 183 327).map .long) 130 _ _ _ = _ from by rw [w183_327]; rfl) ?_
    refine ev_do i183_133 rfl ?_
    obtain ⟨_, eu_4, hf⟩ := x_bind hf
    obtain ⟨r_2, er_2, hf⟩ := x_bind hf
    refine sh_inv (as := [.int 5, .long 495690081125, .int (x1 + 1)]) (z := (some (.int r_2.1), r_2.2)) i183_134 v183_234 (Or.inl ⟨by decide, rfl⟩) m168 rfl (Nat.le_of_ble_eq_true rfl) eu_4 (fn168_call (by omega) er_2) ?_
    refine ev_if (t := 145) i183_137 rfl (fun c_3 => ?_) (fun c_3 => ?_)
    · replace hf := x_pos (show r_2.1 = 0 from c_3) hf
      exact j183_145_ok hd hf
    · replace hf := x_neg (show ¬ r_2.1 = 0 from c_3) hf
      refine ev_do i183_140 rfl ?_
      refine sh_goto (t := 147) i183_142 rfl ?_
      exact j183_147_ok hd hf
def j183_117  (o0 : Option Nat) (x1 : Int32) (x2 : Int32) (x3 : Int32) (x4 : Int32) (h : xH) : Option (Int32 × xH) := j183_119 o0 x1 x2 x3 x4 x4 h
theorem j183_117_ok {xs : List Int32} {d : Nat} (hd : 3 ≤ d) {o0 : Option Nat} {x1 : Int32} {x2 : Int32} {x3 : Int32} {x4 : Int32} {h : xH} {r : (Int32 × xH)} (hf : j183_117 o0 x1 x2 x3 x4 h = some r) : xEv (xTa xs) d 183 (117, [xrv o0, .int x1, .int x2, .int x3, .int x4], [], h) (some (.int r.1), r.2) := by
  unfold j183_117 at hf
  refine ev_do i183_117 rfl ?_
  exact j183_119_ok hd hf
def j183_92  (o0 : Option Nat) (x1 : Int32) (x2 : Int32) (x3 : Int32) (x4 : Int32) (s0 : Int32) (h : xH) : Option (Int32 × xH) := (if x3 = 3 then (xcv h o0 11).bind fun _ => (fn168 o0 (x1 + 1) 7562597 3 h).bind fun r_2 => (if r_2.1 = 0 then j183_117 o0 x1 x2 x3 s0 r_2.2 else j183_119 o0 x1 x2 x3 s0 5 r_2.2) else j183_117 o0 x1 x2 x3 s0 h)
theorem j183_92_ok {xs : List Int32} {d : Nat} (hd : 3 ≤ d) {o0 : Option Nat} {x1 : Int32} {x2 : Int32} {x3 : Int32} {x4 : Int32} {s0 : Int32} {h : xH} {r : (Int32 × xH)} (hf : j183_92 o0 x1 x2 x3 x4 s0 h = some r) : xEv (xTa xs) d 183 (92, [xrv o0, .int x1, .int x2, .int x3, .int x4], [.int s0], h) (some (.int r.1), r.2) := by
  unfold j183_92 at hf
  refine sh_istore (i' := 4) (n := 2) i183_92 (Or.inl rfl) (xokst_of (Nat.le_of_ble_eq_true rfl) rfl) ?_
  refine ev_do i183_94 rfl ?_
  refine ev_do i183_95 rfl ?_
  refine ev_icmp (t := 117) i183_96 rfl (fun c_1 => ?_) (fun c_1 => ?_)
  · replace hf := x_neg (show ¬ x3 = 3 from c_1) hf
    exact j183_117_ok hd hf
  · replace hf := x_pos (show x3 = 3 from Decidable.byContradiction (fun h9 => c_1 h9)) hf
    refine sh_aload (i' := 0) (n := 1) i183_99 (Or.inr ⟨rfl, by decide⟩) rfl ?_
    refine ev_do i183_100 rfl ?_
    refine ev_do i183_101 rfl ?_
    refine ev_do i183_102 rfl ?_
    refine ev_do i183_103 (show xpush? 3 ((xtJ (xTa xs) 183 325).map .long) 103 _ _ _ = _ from by rw [w183_325]; rfl) ?_
    refine ev_do i183_106 rfl ?_
    obtain ⟨_, eu_4, hf⟩ := x_bind hf
    obtain ⟨r_2, er_2, hf⟩ := x_bind hf
    refine sh_inv (as := [.int 3, .long 7562597, .int (x1 + 1)]) (z := (some (.int r_2.1), r_2.2)) i183_107 v183_234 (Or.inl ⟨by decide, rfl⟩) m168 rfl (Nat.le_of_ble_eq_true rfl) eu_4 (fn168_call (by omega) er_2) ?_
    refine ev_if (t := 117) i183_110 rfl (fun c_3 => ?_) (fun c_3 => ?_)
    · replace hf := x_pos (show r_2.1 = 0 from c_3) hf
      exact j183_117_ok hd hf
    · replace hf := x_neg (show ¬ r_2.1 = 0 from c_3) hf
      refine ev_do i183_113 rfl ?_
      refine sh_goto (t := 119) i183_114 rfl ?_
      exact j183_119_ok hd hf
def j183_90  (o0 : Option Nat) (x1 : Int32) (x2 : Int32) (x3 : Int32) (x4 : Int32) (h : xH) : Option (Int32 × xH) := j183_92 o0 x1 x2 x3 x4 x4 h
theorem j183_90_ok {xs : List Int32} {d : Nat} (hd : 3 ≤ d) {o0 : Option Nat} {x1 : Int32} {x2 : Int32} {x3 : Int32} {x4 : Int32} {h : xH} {r : (Int32 × xH)} (hf : j183_90 o0 x1 x2 x3 x4 h = some r) : xEv (xTa xs) d 183 (90, [xrv o0, .int x1, .int x2, .int x3, .int x4], [], h) (some (.int r.1), r.2) := by
  unfold j183_90 at hf
  refine ev_do i183_90 rfl ?_
  exact j183_92_ok hd hf
def j183_63  (o0 : Option Nat) (x1 : Int32) (x2 : Int32) (x3 : Int32) (x4 : Int32) (s0 : Int32) (h : xH) : Option (Int32 × xH) := (if x3 = 6 then (xcv h o0 11).bind fun _ => (fn168 o0 (x1 + 1) 127991945328499 6 h).bind fun r_2 => (if r_2.1 = 0 then j183_90 o0 x1 x2 x3 s0 r_2.2 else j183_92 o0 x1 x2 x3 s0 4 r_2.2) else j183_90 o0 x1 x2 x3 s0 h)
theorem j183_63_ok {xs : List Int32} {d : Nat} (hd : 3 ≤ d) {o0 : Option Nat} {x1 : Int32} {x2 : Int32} {x3 : Int32} {x4 : Int32} {s0 : Int32} {h : xH} {r : (Int32 × xH)} (hf : j183_63 o0 x1 x2 x3 x4 s0 h = some r) : xEv (xTa xs) d 183 (63, [xrv o0, .int x1, .int x2, .int x3, .int x4], [.int s0], h) (some (.int r.1), r.2) := by
  unfold j183_63 at hf
  refine sh_istore (i' := 4) (n := 2) i183_63 (Or.inl rfl) (xokst_of (Nat.le_of_ble_eq_true rfl) rfl) ?_
  refine ev_do i183_65 rfl ?_
  refine ev_do i183_66 rfl ?_
  refine ev_icmp (t := 90) i183_68 rfl (fun c_1 => ?_) (fun c_1 => ?_)
  · replace hf := x_neg (show ¬ x3 = 6 from c_1) hf
    exact j183_90_ok hd hf
  · replace hf := x_pos (show x3 = 6 from Decidable.byContradiction (fun h9 => c_1 h9)) hf
    refine sh_aload (i' := 0) (n := 1) i183_71 (Or.inr ⟨rfl, by decide⟩) rfl ?_
    refine ev_do i183_72 rfl ?_
    refine ev_do i183_73 rfl ?_
    refine ev_do i183_74 rfl ?_
    refine ev_do i183_75 (show xpush? 3 ((xtJ (xTa xs) 183 323).map .long) 75 _ _ _ = _ from by rw [w183_323]; rfl) ?_
    refine ev_do i183_78 rfl ?_
    obtain ⟨_, eu_4, hf⟩ := x_bind hf
    obtain ⟨r_2, er_2, hf⟩ := x_bind hf
    refine sh_inv (as := [.int 6, .long 127991945328499, .int (x1 + 1)]) (z := (some (.int r_2.1), r_2.2)) i183_80 v183_234 (Or.inl ⟨by decide, rfl⟩) m168 rfl (Nat.le_of_ble_eq_true rfl) eu_4 (fn168_call (by omega) er_2) ?_
    refine ev_if (t := 90) i183_83 rfl (fun c_3 => ?_) (fun c_3 => ?_)
    · replace hf := x_pos (show r_2.1 = 0 from c_3) hf
      exact j183_90_ok hd hf
    · replace hf := x_neg (show ¬ r_2.1 = 0 from c_3) hf
      refine ev_do i183_86 rfl ?_
      refine sh_goto (t := 92) i183_87 rfl ?_
      exact j183_92_ok hd hf
def j183_61  (o0 : Option Nat) (x1 : Int32) (x2 : Int32) (x3 : Int32) (x4 : Int32) (h : xH) : Option (Int32 × xH) := j183_63 o0 x1 x2 x3 x4 x4 h
theorem j183_61_ok {xs : List Int32} {d : Nat} (hd : 3 ≤ d) {o0 : Option Nat} {x1 : Int32} {x2 : Int32} {x3 : Int32} {x4 : Int32} {h : xH} {r : (Int32 × xH)} (hf : j183_61 o0 x1 x2 x3 x4 h = some r) : xEv (xTa xs) d 183 (61, [xrv o0, .int x1, .int x2, .int x3, .int x4], [], h) (some (.int r.1), r.2) := by
  unfold j183_61 at hf
  refine ev_do i183_61 rfl ?_
  exact j183_63_ok hd hf
def j183_34  (o0 : Option Nat) (x1 : Int32) (x2 : Int32) (x3 : Int32) (x4 : Int32) (s0 : Int32) (h : xH) : Option (Int32 × xH) := (if x3 = 6 then (xcv h o0 11).bind fun _ => (fn168 o0 (x1 + 1) 125780071117422 6 h).bind fun r_2 => (if r_2.1 = 0 then j183_61 o0 x1 x2 x3 s0 r_2.2 else j183_63 o0 x1 x2 x3 s0 3 r_2.2) else j183_61 o0 x1 x2 x3 s0 h)
theorem j183_34_ok {xs : List Int32} {d : Nat} (hd : 3 ≤ d) {o0 : Option Nat} {x1 : Int32} {x2 : Int32} {x3 : Int32} {x4 : Int32} {s0 : Int32} {h : xH} {r : (Int32 × xH)} (hf : j183_34 o0 x1 x2 x3 x4 s0 h = some r) : xEv (xTa xs) d 183 (34, [xrv o0, .int x1, .int x2, .int x3, .int x4], [.int s0], h) (some (.int r.1), r.2) := by
  unfold j183_34 at hf
  refine sh_istore (i' := 4) (n := 2) i183_34 (Or.inl rfl) (xokst_of (Nat.le_of_ble_eq_true rfl) rfl) ?_
  refine ev_do i183_36 rfl ?_
  refine ev_do i183_37 rfl ?_
  refine ev_icmp (t := 61) i183_39 rfl (fun c_1 => ?_) (fun c_1 => ?_)
  · replace hf := x_neg (show ¬ x3 = 6 from c_1) hf
    exact j183_61_ok hd hf
  · replace hf := x_pos (show x3 = 6 from Decidable.byContradiction (fun h9 => c_1 h9)) hf
    refine sh_aload (i' := 0) (n := 1) i183_42 (Or.inr ⟨rfl, by decide⟩) rfl ?_
    refine ev_do i183_43 rfl ?_
    refine ev_do i183_44 rfl ?_
    refine ev_do i183_45 rfl ?_
    refine ev_do i183_46 (show xpush? 3 ((xtJ (xTa xs) 183 321).map .long) 46 _ _ _ = _ from by rw [w183_321]; rfl) ?_
    refine ev_do i183_49 rfl ?_
    obtain ⟨_, eu_4, hf⟩ := x_bind hf
    obtain ⟨r_2, er_2, hf⟩ := x_bind hf
    refine sh_inv (as := [.int 6, .long 125780071117422, .int (x1 + 1)]) (z := (some (.int r_2.1), r_2.2)) i183_51 v183_234 (Or.inl ⟨by decide, rfl⟩) m168 rfl (Nat.le_of_ble_eq_true rfl) eu_4 (fn168_call (by omega) er_2) ?_
    refine ev_if (t := 61) i183_54 rfl (fun c_3 => ?_) (fun c_3 => ?_)
    · replace hf := x_pos (show r_2.1 = 0 from c_3) hf
      exact j183_61_ok hd hf
    · replace hf := x_neg (show ¬ r_2.1 = 0 from c_3) hf
      refine ev_do i183_57 rfl ?_
      refine sh_goto (t := 63) i183_58 rfl ?_
      exact j183_63_ok hd hf
def j183_32  (o0 : Option Nat) (x1 : Int32) (x2 : Int32) (x3 : Int32) (x4 : Int32) (h : xH) : Option (Int32 × xH) := j183_34 o0 x1 x2 x3 x4 x4 h
theorem j183_32_ok {xs : List Int32} {d : Nat} (hd : 3 ≤ d) {o0 : Option Nat} {x1 : Int32} {x2 : Int32} {x3 : Int32} {x4 : Int32} {h : xH} {r : (Int32 × xH)} (hf : j183_32 o0 x1 x2 x3 x4 h = some r) : xEv (xTa xs) d 183 (32, [xrv o0, .int x1, .int x2, .int x3, .int x4], [], h) (some (.int r.1), r.2) := by
  unfold j183_32 at hf
  refine ev_do i183_32 rfl ?_
  exact j183_34_ok hd hf
def fn183 (o0 : Option Nat) (x1 : Int32) (x2 : Int32) (h : xH) : Option (Int32 × xH) := (if ((x2 - x1) - 1) = 5 then (xcv h o0 11).bind fun _ => (fn168 o0 (x1 + 1) 482671223149 5 h).bind fun r_2 => (if r_2.1 = 0 then j183_32 o0 x1 x2 ((x2 - x1) - 1) (-1) r_2.2 else j183_34 o0 x1 x2 ((x2 - x1) - 1) (-1) 2 r_2.2) else j183_32 o0 x1 x2 ((x2 - x1) - 1) (-1) h)
theorem fn183_call {xs : List Int32} {d : Nat} (hd : 4 ≤ d) {o0 : Option Nat} {x1 : Int32} {x2 : Int32} {h : xH} {r : (Int32 × xH)} (hf : fn183 o0 x1 x2 h = some r) : xCall (xTa xs) d 183 [xrv o0, .int x1, .int x2] h (some (.int r.1), r.2) := by
  obtain ⟨d, rfl⟩ : ∃ d2, d = d2 + 1 := ⟨d - 1, by omega⟩
  replace hd : 3 ≤ d := by omega
  refine call_of2 (fl := [xrv o0, .int x1, .int x2]) (Ls := [xrv o0, .int x1, .int x2, .float 0, .float 0]) m183 (by simp [xfl, xrv_cat, xc_i, xc_j, xc_a, xc_f]) (Nat.le_of_ble_eq_true rfl) rfl ?_
  unfold fn183 at hf
  refine ev_do i183_0 rfl ?_
  refine ev_do i183_1 rfl ?_
  refine ev_do i183_2 rfl ?_
  refine ev_do i183_3 rfl ?_
  refine ev_do i183_4 rfl ?_
  refine sh_istore (i' := 3) (n := 1) i183_5 (Or.inr ⟨rfl, by decide⟩) (xokst_of (Nat.le_of_ble_eq_true rfl) rfl) ?_
  refine ev_do i183_6 rfl ?_
  refine sh_istore (i' := 4) (n := 2) i183_7 (Or.inl rfl) (xokst_of (Nat.le_of_ble_eq_true rfl) rfl) ?_
  refine ev_do i183_9 rfl ?_
  refine ev_do i183_10 rfl ?_
  refine ev_icmp (t := 32) i183_11 rfl (fun c_1 => ?_) (fun c_1 => ?_)
  · replace hf := x_neg (show ¬ ((x2 - x1) - 1) = 5 from c_1) hf
    exact j183_32_ok hd hf
  · replace hf := x_pos (show ((x2 - x1) - 1) = 5 from Decidable.byContradiction (fun h9 => c_1 h9)) hf
    refine sh_aload (i' := 0) (n := 1) i183_14 (Or.inr ⟨rfl, by decide⟩) rfl ?_
    refine ev_do i183_15 rfl ?_
    refine ev_do i183_16 rfl ?_
    refine ev_do i183_17 rfl ?_
    refine ev_do i183_18 (show xpush? 3 ((xtJ (xTa xs) 183 319).map .long) 18 _ _ _ = _ from by rw [w183_319]; rfl) ?_
    refine ev_do i183_21 rfl ?_
    obtain ⟨_, eu_4, hf⟩ := x_bind hf
    obtain ⟨r_2, er_2, hf⟩ := x_bind hf
    refine sh_inv (as := [.int 5, .long 482671223149, .int (x1 + 1)]) (z := (some (.int r_2.1), r_2.2)) i183_22 v183_234 (Or.inl ⟨by decide, rfl⟩) m168 rfl (Nat.le_of_ble_eq_true rfl) eu_4 (fn168_call (by omega) er_2) ?_
    refine ev_if (t := 32) i183_25 rfl (fun c_3 => ?_) (fun c_3 => ?_)
    · replace hf := x_pos (show r_2.1 = 0 from c_3) hf
      exact j183_32_ok hd hf
    · replace hf := x_neg (show ¬ r_2.1 = 0 from c_3) hf
      refine ev_do i183_28 rfl ?_
      refine sh_goto (t := 34) i183_29 rfl ?_
      exact j183_34_ok hd hf
end
section
def j184_38 (k4 : Option Nat → Int32 → Int32 → Int32 → xH → Option (Int32 × xH)) (o0 : Option Nat) (x1 : Int32) (x2 : Int32) (x3 : Int32) (s0 : Int32) (h : xH) : Option (Int32 × xH) := k4 o0 x1 s0 (x3 + 1) h
theorem j184_38_ok {xs : List Int32} {d : Nat} (hd : 1 ≤ d) {k4 : Option Nat → Int32 → Int32 → Int32 → xH → Option (Int32 × xH)} (hk4 : ∀ {o0 : Option Nat} {x1 : Int32} {x2 : Int32} {x3 : Int32} {h : xH} {r : (Int32 × xH)}, k4 o0 x1 x2 x3 h = some r → xEv (xTa xs) d 184 (4, [xrv o0, .int x1, .int x2, .int x3], [], h) (some (.int r.1), r.2)) {o0 : Option Nat} {x1 : Int32} {x2 : Int32} {x3 : Int32} {s0 : Int32} {h : xH} {r : (Int32 × xH)} (hf : j184_38 k4 o0 x1 x2 x3 s0 h = some r) : xEv (xTa xs) d 184 (38, [xrv o0, .int x1, .int x2, .int x3], [.int s0], h) (some (.int r.1), r.2) := by
  unfold j184_38 at hf
  refine sh_istore (i' := 2) (n := 1) i184_38 (Or.inr ⟨rfl, by decide⟩) (xokst_of (Nat.le_of_ble_eq_true rfl) rfl) ?_
  refine sh_inc (i' := 3) i184_39 rfl (xokst_of (Nat.le_of_ble_eq_true rfl) rfl) rfl ?_
  refine sh_goto (t := 4) i184_42 rfl ?_
  exact hk4 hf
def j184_33 (k4 : Option Nat → Int32 → Int32 → Int32 → xH → Option (Int32 × xH)) (o0 : Option Nat) (x1 : Int32) (x2 : Int32) (x3 : Int32) (h : xH) : Option (Int32 × xH) := j184_38 k4 o0 x1 x2 x3 1 h
theorem j184_33_ok {xs : List Int32} {d : Nat} (hd : 1 ≤ d) {k4 : Option Nat → Int32 → Int32 → Int32 → xH → Option (Int32 × xH)} (hk4 : ∀ {o0 : Option Nat} {x1 : Int32} {x2 : Int32} {x3 : Int32} {h : xH} {r : (Int32 × xH)}, k4 o0 x1 x2 x3 h = some r → xEv (xTa xs) d 184 (4, [xrv o0, .int x1, .int x2, .int x3], [], h) (some (.int r.1), r.2)) {o0 : Option Nat} {x1 : Int32} {x2 : Int32} {x3 : Int32} {h : xH} {r : (Int32 × xH)} (hf : j184_33 k4 o0 x1 x2 x3 h = some r) : xEv (xTa xs) d 184 (33, [xrv o0, .int x1, .int x2, .int x3], [], h) (some (.int r.1), r.2) := by
  unfold j184_33 at hf
  refine ev_do i184_33 rfl ?_
  refine sh_goto (t := 38) i184_34 rfl ?_
  exact j184_38_ok hd hk4 hf
def l184_4  : Nat → Option Nat → Int32 → Int32 → Int32 → xH → Option (Int32 × xH)
  | 0 => fun _ _ _ _ _ => none
  | n + 1 => fun o0 x1 x2 x3 h => (xgR h o0 11 14).bind fun a_1 => (xaI h 13 a_1 40).bind fun v_2 => (if v_2 ≤ x3 then (if x2 &&& 1 = x2 then some (x2, h) else none) else (if x2 = 0 then (xgR h o0 11 16).bind fun a_6 => (xaI h 13 a_6 (960 + x3)).bind fun v_7 => (if v_7 = x1 then j184_33 (l184_4 n) o0 x1 x2 x3 h else j184_38 (l184_4 n) o0 x1 x2 x3 0 h) else j184_33 (l184_4 n) o0 x1 x2 x3 h))
theorem l184_4_ok {xs : List Int32} {d : Nat} (hd : 1 ≤ d) : ∀ (n : Nat) {o0 : Option Nat} {x1 : Int32} {x2 : Int32} {x3 : Int32} {h : xH} {r : (Int32 × xH)}, l184_4 n o0 x1 x2 x3 h = some r → xEv (xTa xs) d 184 (4, [xrv o0, .int x1, .int x2, .int x3], [], h) (some (.int r.1), r.2) := by
  intro n
  induction n with
  | zero => intros; rename_i hf; cases hf
  | succ n ih =>
    intro o0 x1 x2 x3 h r hf
    replace hf : ((xgR h o0 11 14).bind fun a_1 => (xaI h 13 a_1 40).bind fun v_2 => (if v_2 ≤ x3 then (if x2 &&& 1 = x2 then some (x2, h) else none) else (if x2 = 0 then (xgR h o0 11 16).bind fun a_6 => (xaI h 13 a_6 (960 + x3)).bind fun v_7 => (if v_7 = x1 then j184_33 (l184_4 n) o0 x1 x2 x3 h else j184_38 (l184_4 n) o0 x1 x2 x3 0 h) else j184_33 (l184_4 n) o0 x1 x2 x3 h))) = some r := hf
    refine ev_do i184_4 rfl ?_
    refine sh_aload (i' := 0) (n := 1) i184_5 (Or.inr ⟨rfl, by decide⟩) rfl ?_
    obtain ⟨a_1, ea_1, hf⟩ := x_bind hf
    refine sh_getR i184_6 f184_47 ea_1 ?_
    refine ev_do i184_9 rfl ?_
    obtain ⟨v_2, ev_2, hf⟩ := x_bind hf
    refine sh_aldI (tg := 13) i184_11 (Or.inl ⟨rfl, rfl⟩) ev_2 ?_
    refine ev_icmp (t := 45) i184_12 rfl (fun c_3 => ?_) (fun c_3 => ?_)
    · replace hf := x_pos (show v_2 ≤ x3 from c_3) hf
      refine ev_do i184_45 rfl ?_
      by_cases c_4 : x2 &&& 1 = x2
      · replace hf := x_pos c_4 hf
        obtain rfl := Option.some.inj hf
        exact sh_iret i184_46 m184 rfl (congrArg Value.int c_4)
      · replace hf := x_neg c_4 hf
        cases hf
    · replace hf := x_neg (show ¬ v_2 ≤ x3 from c_3) hf
      refine ev_do i184_15 rfl ?_
      refine ev_if (t := 33) i184_16 rfl (fun c_5 => ?_) (fun c_5 => ?_)
      · replace hf := x_neg (show ¬ x2 = 0 from c_5) hf
        exact j184_33_ok hd ih hf
      · replace hf := x_pos (show x2 = 0 from Decidable.byContradiction (fun h9 => c_5 h9)) hf
        refine sh_aload (i' := 0) (n := 1) i184_19 (Or.inr ⟨rfl, by decide⟩) rfl ?_
        obtain ⟨a_6, ea_6, hf⟩ := x_bind hf
        refine sh_getR i184_20 f184_53 ea_6 ?_
        refine ev_do i184_23 rfl ?_
        refine ev_do i184_26 rfl ?_
        refine ev_do i184_27 rfl ?_
        obtain ⟨v_7, ev_7, hf⟩ := x_bind hf
        refine sh_aldI (tg := 13) i184_28 (Or.inl ⟨rfl, rfl⟩) ev_7 ?_
        refine ev_do i184_29 rfl ?_
        refine ev_icmp (t := 37) i184_30 rfl (fun c_8 => ?_) (fun c_8 => ?_)
        · replace hf := x_neg (show ¬ v_7 = x1 from c_8) hf
          refine ev_do i184_37 rfl ?_
          exact j184_38_ok hd ih hf
        · replace hf := x_pos (show v_7 = x1 from Decidable.byContradiction (fun h9 => c_8 h9)) hf
          exact j184_33_ok hd ih hf
def fn184 (o0 : Option Nat) (x1 : Int32) (h : xH) : Option (Int32 × xH) := l184_4 xFuel o0 x1 0 0 h
theorem fn184_call {xs : List Int32} {d : Nat} (hd : 2 ≤ d) {o0 : Option Nat} {x1 : Int32} {h : xH} {r : (Int32 × xH)} (hf : fn184 o0 x1 h = some r) : xCall (xTa xs) d 184 [xrv o0, .int x1] h (some (.int r.1), r.2) := by
  obtain ⟨d, rfl⟩ : ∃ d2, d = d2 + 1 := ⟨d - 1, by omega⟩
  replace hd : 1 ≤ d := by omega
  refine call_of2 (fl := [xrv o0, .int x1]) (Ls := [xrv o0, .int x1, .float 0, .float 0]) m184 (by simp [xfl, xrv_cat, xc_i, xc_j, xc_a, xc_f]) (Nat.le_of_ble_eq_true rfl) rfl ?_
  unfold fn184 at hf
  refine ev_do i184_0 rfl ?_
  refine sh_istore (i' := 2) (n := 1) i184_1 (Or.inr ⟨rfl, by decide⟩) (xokst_of (Nat.le_of_ble_eq_true rfl) rfl) ?_
  refine ev_do i184_2 rfl ?_
  refine sh_istore (i' := 3) (n := 1) i184_3 (Or.inr ⟨rfl, by decide⟩) (xokst_of (Nat.le_of_ble_eq_true rfl) rfl) ?_
  exact l184_4_ok hd xFuel hf
end
section
def j185_120 (k5 : Option Nat → Int32 → Int32 → Int32 → Int32 → xH → Option (Int32 × xH)) (o0 : Option Nat) (x1 : Int32) (x2 : Int32) (x3 : Int32) (x4 : Int32) (x5 : Int32) (x6 : Int32) (x7 : Int32) (s0 : Int32) (h : xH) : Option (Int32 × xH) := k5 o0 x1 x2 s0 (x4 + 1) h
theorem j185_120_ok {xs : List Int32} {d : Nat} (hd : 2 ≤ d) {k5 : Option Nat → Int32 → Int32 → Int32 → Int32 → xH → Option (Int32 × xH)} (hk5 : ∀ {u5 : Value} {u6 : Value} {u7 : Value} {o0 : Option Nat} {x1 : Int32} {x2 : Int32} {x3 : Int32} {x4 : Int32} {h : xH} {r : (Int32 × xH)}, u5.category = 1 → u6.category = 1 → u7.category = 1 → k5 o0 x1 x2 x3 x4 h = some r → xEv (xTa xs) d 185 (5, [xrv o0, .int x1, .int x2, .int x3, .int x4, u5, u6, u7], [], h) (some (.int r.1), r.2)) {o0 : Option Nat} {x1 : Int32} {x2 : Int32} {x3 : Int32} {x4 : Int32} {x5 : Int32} {x6 : Int32} {x7 : Int32} {s0 : Int32} {h : xH} {r : (Int32 × xH)} (hf : j185_120 k5 o0 x1 x2 x3 x4 x5 x6 x7 s0 h = some r) : xEv (xTa xs) d 185 (120, [xrv o0, .int x1, .int x2, .int x3, .int x4, .int x5, .int x6, .int x7], [.int s0], h) (some (.int r.1), r.2) := by
  unfold j185_120 at hf
  refine sh_istore (i' := 3) (n := 1) i185_120 (Or.inr ⟨rfl, by decide⟩) (xokst_of (Nat.le_of_ble_eq_true rfl) rfl) ?_
  refine sh_inc (i' := 4) i185_121 rfl (xokst_of (Nat.le_of_ble_eq_true rfl) rfl) rfl ?_
  refine sh_goto (t := 5) i185_124 rfl ?_
  exact hk5 rfl rfl rfl hf
def j185_115 (k5 : Option Nat → Int32 → Int32 → Int32 → Int32 → xH → Option (Int32 × xH)) (o0 : Option Nat) (x1 : Int32) (x2 : Int32) (x3 : Int32) (x4 : Int32) (x5 : Int32) (x6 : Int32) (x7 : Int32) (h : xH) : Option (Int32 × xH) := j185_120 k5 o0 x1 x2 x3 x4 x5 x6 x7 1 h
theorem j185_115_ok {xs : List Int32} {d : Nat} (hd : 2 ≤ d) {k5 : Option Nat → Int32 → Int32 → Int32 → Int32 → xH → Option (Int32 × xH)} (hk5 : ∀ {u5 : Value} {u6 : Value} {u7 : Value} {o0 : Option Nat} {x1 : Int32} {x2 : Int32} {x3 : Int32} {x4 : Int32} {h : xH} {r : (Int32 × xH)}, u5.category = 1 → u6.category = 1 → u7.category = 1 → k5 o0 x1 x2 x3 x4 h = some r → xEv (xTa xs) d 185 (5, [xrv o0, .int x1, .int x2, .int x3, .int x4, u5, u6, u7], [], h) (some (.int r.1), r.2)) {o0 : Option Nat} {x1 : Int32} {x2 : Int32} {x3 : Int32} {x4 : Int32} {x5 : Int32} {x6 : Int32} {x7 : Int32} {h : xH} {r : (Int32 × xH)} (hf : j185_115 k5 o0 x1 x2 x3 x4 x5 x6 x7 h = some r) : xEv (xTa xs) d 185 (115, [xrv o0, .int x1, .int x2, .int x3, .int x4, .int x5, .int x6, .int x7], [], h) (some (.int r.1), r.2) := by
  unfold j185_115 at hf
  refine ev_do i185_115 rfl ?_
  refine sh_goto (t := 120) i185_116 rfl ?_
  exact j185_120_ok hd hk5 hf
def j185_106 (k5 : Option Nat → Int32 → Int32 → Int32 → Int32 → xH → Option (Int32 × xH)) (o0 : Option Nat) (x1 : Int32) (x2 : Int32) (x3 : Int32) (x4 : Int32) (x5 : Int32) (x6 : Int32) (x7 : Int32) (h : xH) : Option (Int32 × xH) := (if x3 = 0 then (if x6 = 0 then j185_120 k5 o0 x1 x2 x3 x4 x5 x6 x7 0 h else j185_115 k5 o0 x1 x2 x3 x4 x5 x6 x7 h) else j185_115 k5 o0 x1 x2 x3 x4 x5 x6 x7 h)
theorem j185_106_ok {xs : List Int32} {d : Nat} (hd : 2 ≤ d) {k5 : Option Nat → Int32 → Int32 → Int32 → Int32 → xH → Option (Int32 × xH)} (hk5 : ∀ {u5 : Value} {u6 : Value} {u7 : Value} {o0 : Option Nat} {x1 : Int32} {x2 : Int32} {x3 : Int32} {x4 : Int32} {h : xH} {r : (Int32 × xH)}, u5.category = 1 → u6.category = 1 → u7.category = 1 → k5 o0 x1 x2 x3 x4 h = some r → xEv (xTa xs) d 185 (5, [xrv o0, .int x1, .int x2, .int x3, .int x4, u5, u6, u7], [], h) (some (.int r.1), r.2)) {o0 : Option Nat} {x1 : Int32} {x2 : Int32} {x3 : Int32} {x4 : Int32} {x5 : Int32} {x6 : Int32} {x7 : Int32} {h : xH} {r : (Int32 × xH)} (hf : j185_106 k5 o0 x1 x2 x3 x4 x5 x6 x7 h = some r) : xEv (xTa xs) d 185 (106, [xrv o0, .int x1, .int x2, .int x3, .int x4, .int x5, .int x6, .int x7], [], h) (some (.int r.1), r.2) := by
  unfold j185_106 at hf
  refine ev_do i185_106 rfl ?_
  refine ev_if (t := 115) i185_107 rfl (fun c_1 => ?_) (fun c_1 => ?_)
  · replace hf := x_neg (show ¬ x3 = 0 from c_1) hf
    exact j185_115_ok hd hk5 hf
  · replace hf := x_pos (show x3 = 0 from Decidable.byContradiction (fun h9 => c_1 h9)) hf
    refine ev_do i185_110 rfl ?_
    refine ev_if (t := 119) i185_112 rfl (fun c_2 => ?_) (fun c_2 => ?_)
    · replace hf := x_pos (show x6 = 0 from c_2) hf
      refine ev_do i185_119 rfl ?_
      exact j185_120_ok hd hk5 hf
    · replace hf := x_neg (show ¬ x6 = 0 from c_2) hf
      exact j185_115_ok hd hk5 hf
def j185_98 (k5 : Option Nat → Int32 → Int32 → Int32 → Int32 → xH → Option (Int32 × xH)) (k57 : Option Nat → Int32 → Int32 → Int32 → Int32 → Int32 → Int32 → Int32 → xH → Option (Int32 × xH)) (o0 : Option Nat) (x1 : Int32) (x2 : Int32) (x3 : Int32) (x4 : Int32) (x5 : Int32) (x6 : Int32) (x7 : Int32) (s0 : Int32) (h : xH) : Option (Int32 × xH) := k57 o0 x1 x2 x3 x4 x5 s0 (x7 + 1) h
theorem j185_98_ok {xs : List Int32} {d : Nat} (hd : 2 ≤ d) {k5 : Option Nat → Int32 → Int32 → Int32 → Int32 → xH → Option (Int32 × xH)} {k57 : Option Nat → Int32 → Int32 → Int32 → Int32 → Int32 → Int32 → Int32 → xH → Option (Int32 × xH)} (hk5 : ∀ {u5 : Value} {u6 : Value} {u7 : Value} {o0 : Option Nat} {x1 : Int32} {x2 : Int32} {x3 : Int32} {x4 : Int32} {h : xH} {r : (Int32 × xH)}, u5.category = 1 → u6.category = 1 → u7.category = 1 → k5 o0 x1 x2 x3 x4 h = some r → xEv (xTa xs) d 185 (5, [xrv o0, .int x1, .int x2, .int x3, .int x4, u5, u6, u7], [], h) (some (.int r.1), r.2)) (hk57 : ∀ {o0 : Option Nat} {x1 : Int32} {x2 : Int32} {x3 : Int32} {x4 : Int32} {x5 : Int32} {x6 : Int32} {x7 : Int32} {h : xH} {r : (Int32 × xH)}, k57 o0 x1 x2 x3 x4 x5 x6 x7 h = some r → xEv (xTa xs) d 185 (57, [xrv o0, .int x1, .int x2, .int x3, .int x4, .int x5, .int x6, .int x7], [], h) (some (.int r.1), r.2)) {o0 : Option Nat} {x1 : Int32} {x2 : Int32} {x3 : Int32} {x4 : Int32} {x5 : Int32} {x6 : Int32} {x7 : Int32} {s0 : Int32} {h : xH} {r : (Int32 × xH)} (hf : j185_98 k5 k57 o0 x1 x2 x3 x4 x5 x6 x7 s0 h = some r) : xEv (xTa xs) d 185 (98, [xrv o0, .int x1, .int x2, .int x3, .int x4, .int x5, .int x6, .int x7], [.int s0], h) (some (.int r.1), r.2) := by
  unfold j185_98 at hf
  refine sh_istore (i' := 6) (n := 2) i185_98 (Or.inl rfl) (xokst_of (Nat.le_of_ble_eq_true rfl) rfl) ?_
  refine sh_inc (i' := 7) i185_100 rfl (xokst_of (Nat.le_of_ble_eq_true rfl) rfl) rfl ?_
  refine sh_goto (t := 57) i185_103 rfl ?_
  exact hk57 hf
def l185_57 (k5 : Option Nat → Int32 → Int32 → Int32 → Int32 → xH → Option (Int32 × xH)) : Nat → Option Nat → Int32 → Int32 → Int32 → Int32 → Int32 → Int32 → Int32 → xH → Option (Int32 × xH)
  | 0 => fun _ _ _ _ _ _ _ _ _ => none
  | n + 1 => fun o0 x1 x2 x3 x4 x5 x6 x7 h => (if x2 ≤ x7 then j185_106 k5 o0 x1 x2 x3 x4 x5 x6 x7 h else (if x6 = 0 then j185_106 k5 o0 x1 x2 x3 x4 x5 x6 x7 h else (xgR h o0 11 21).bind fun a_3 => (xaI h 13 a_3 x5).bind fun v_4 => (xcv h o0 11).bind fun _ => (fn167 o0 (v_4 + x7) h).bind fun r_5 => (xcv r_5.2 o0 11).bind fun _ => (fn167 o0 (x1 + x7) r_5.2).bind fun r_6 => (if r_5.1 = r_6.1 then j185_98 k5 (l185_57 k5 n) o0 x1 x2 x3 x4 x5 x6 x7 1 r_6.2 else j185_98 k5 (l185_57 k5 n) o0 x1 x2 x3 x4 x5 x6 x7 0 r_6.2)))
theorem l185_57_ok {xs : List Int32} {d : Nat} (hd : 2 ≤ d) {k5 : Option Nat → Int32 → Int32 → Int32 → Int32 → xH → Option (Int32 × xH)} (hk5 : ∀ {u5 : Value} {u6 : Value} {u7 : Value} {o0 : Option Nat} {x1 : Int32} {x2 : Int32} {x3 : Int32} {x4 : Int32} {h : xH} {r : (Int32 × xH)}, u5.category = 1 → u6.category = 1 → u7.category = 1 → k5 o0 x1 x2 x3 x4 h = some r → xEv (xTa xs) d 185 (5, [xrv o0, .int x1, .int x2, .int x3, .int x4, u5, u6, u7], [], h) (some (.int r.1), r.2)) : ∀ (n : Nat) {o0 : Option Nat} {x1 : Int32} {x2 : Int32} {x3 : Int32} {x4 : Int32} {x5 : Int32} {x6 : Int32} {x7 : Int32} {h : xH} {r : (Int32 × xH)}, l185_57 k5 n o0 x1 x2 x3 x4 x5 x6 x7 h = some r → xEv (xTa xs) d 185 (57, [xrv o0, .int x1, .int x2, .int x3, .int x4, .int x5, .int x6, .int x7], [], h) (some (.int r.1), r.2) := by
  intro n
  induction n with
  | zero => intros; rename_i hf; cases hf
  | succ n ih =>
    intro o0 x1 x2 x3 x4 x5 x6 x7 h r hf
    replace hf : ((if x2 ≤ x7 then j185_106 k5 o0 x1 x2 x3 x4 x5 x6 x7 h else (if x6 = 0 then j185_106 k5 o0 x1 x2 x3 x4 x5 x6 x7 h else (xgR h o0 11 21).bind fun a_3 => (xaI h 13 a_3 x5).bind fun v_4 => (xcv h o0 11).bind fun _ => (fn167 o0 (v_4 + x7) h).bind fun r_5 => (xcv r_5.2 o0 11).bind fun _ => (fn167 o0 (x1 + x7) r_5.2).bind fun r_6 => (if r_5.1 = r_6.1 then j185_98 k5 (l185_57 k5 n) o0 x1 x2 x3 x4 x5 x6 x7 1 r_6.2 else j185_98 k5 (l185_57 k5 n) o0 x1 x2 x3 x4 x5 x6 x7 0 r_6.2)))) = some r := hf
    refine ev_do i185_57 rfl ?_
    refine ev_do i185_59 rfl ?_
    refine ev_icmp (t := 106) i185_60 rfl (fun c_1 => ?_) (fun c_1 => ?_)
    · replace hf := x_pos (show x2 ≤ x7 from c_1) hf
      exact j185_106_ok hd hk5 hf
    · replace hf := x_neg (show ¬ x2 ≤ x7 from c_1) hf
      refine ev_do i185_63 rfl ?_
      refine ev_if (t := 106) i185_65 rfl (fun c_2 => ?_) (fun c_2 => ?_)
      · replace hf := x_pos (show x6 = 0 from c_2) hf
        exact j185_106_ok hd hk5 hf
      · replace hf := x_neg (show ¬ x6 = 0 from c_2) hf
        refine sh_aload (i' := 0) (n := 1) i185_68 (Or.inr ⟨rfl, by decide⟩) rfl ?_
        refine sh_aload (i' := 0) (n := 1) i185_69 (Or.inr ⟨rfl, by decide⟩) rfl ?_
        obtain ⟨a_3, ea_3, hf⟩ := x_bind hf
        refine sh_getR i185_70 f185_68 ea_3 ?_
        refine ev_do i185_73 rfl ?_
        obtain ⟨v_4, ev_4, hf⟩ := x_bind hf
        refine sh_aldI (tg := 13) i185_75 (Or.inl ⟨rfl, rfl⟩) ev_4 ?_
        refine ev_do i185_76 rfl ?_
        refine ev_do i185_78 rfl ?_
        obtain ⟨_, eu_9, hf⟩ := x_bind hf
        obtain ⟨r_5, er_5, hf⟩ := x_bind hf
        refine sh_inv (as := [.int (v_4 + x7)]) (z := (some (.int r_5.1), r_5.2)) i185_79 v185_227 (Or.inl ⟨by decide, rfl⟩) m167 rfl (Nat.le_of_ble_eq_true rfl) eu_9 (fn167_call (by omega) er_5) ?_
        refine sh_aload (i' := 0) (n := 1) i185_82 (Or.inr ⟨rfl, by decide⟩) rfl ?_
        refine ev_do i185_83 rfl ?_
        refine ev_do i185_84 rfl ?_
        refine ev_do i185_86 rfl ?_
        obtain ⟨_, eu_8, hf⟩ := x_bind hf
        obtain ⟨r_6, er_6, hf⟩ := x_bind hf
        refine sh_inv (as := [.int (x1 + x7)]) (z := (some (.int r_6.1), r_6.2)) i185_87 v185_227 (Or.inl ⟨by decide, rfl⟩) m167 rfl (Nat.le_of_ble_eq_true rfl) eu_8 (fn167_call (by omega) er_6) ?_
        refine ev_icmp (t := 97) i185_90 rfl (fun c_7 => ?_) (fun c_7 => ?_)
        · replace hf := x_neg (show ¬ r_5.1 = r_6.1 from c_7) hf
          refine ev_do i185_97 rfl ?_
          exact j185_98_ok hd hk5 ih hf
        · replace hf := x_pos (show r_5.1 = r_6.1 from Decidable.byContradiction (fun h9 => c_7 h9)) hf
          refine ev_do i185_93 rfl ?_
          refine sh_goto (t := 98) i185_94 rfl ?_
          exact j185_98_ok hd hk5 ih hf
def j185_52 (k5 : Option Nat → Int32 → Int32 → Int32 → Int32 → xH → Option (Int32 × xH)) (o0 : Option Nat) (x1 : Int32) (x2 : Int32) (x3 : Int32) (x4 : Int32) (x5 : Int32) (s0 : Int32) (h : xH) : Option (Int32 × xH) := l185_57 k5 xFuel o0 x1 x2 x3 x4 x5 s0 0 h
theorem j185_52_ok {xs : List Int32} {d : Nat} (hd : 2 ≤ d) {k5 : Option Nat → Int32 → Int32 → Int32 → Int32 → xH → Option (Int32 × xH)} (hk5 : ∀ {u5 : Value} {u6 : Value} {u7 : Value} {o0 : Option Nat} {x1 : Int32} {x2 : Int32} {x3 : Int32} {x4 : Int32} {h : xH} {r : (Int32 × xH)}, u5.category = 1 → u6.category = 1 → u7.category = 1 → k5 o0 x1 x2 x3 x4 h = some r → xEv (xTa xs) d 185 (5, [xrv o0, .int x1, .int x2, .int x3, .int x4, u5, u6, u7], [], h) (some (.int r.1), r.2)) {u6 : Value} {u7 : Value} {o0 : Option Nat} {x1 : Int32} {x2 : Int32} {x3 : Int32} {x4 : Int32} {x5 : Int32} {s0 : Int32} {h : xH} {r : (Int32 × xH)} (hu6 : u6.category = 1) (hu7 : u7.category = 1) (hf : j185_52 k5 o0 x1 x2 x3 x4 x5 s0 h = some r) : xEv (xTa xs) d 185 (52, [xrv o0, .int x1, .int x2, .int x3, .int x4, .int x5, u6, u7], [.int s0], h) (some (.int r.1), r.2) := by
  unfold j185_52 at hf
  refine sh_istore (i' := 6) (n := 2) i185_52 (Or.inl rfl) (xokst_of (Nat.le_of_ble_eq_true rfl) rfl) ?_
  refine ev_do i185_54 rfl ?_
  refine sh_istore (i' := 7) (n := 2) i185_55 (Or.inl rfl) (xokst_of (Nat.le_of_ble_eq_true rfl) rfl) ?_
  exact l185_57_ok hd hk5 xFuel hf
def j185_51 (k5 : Option Nat → Int32 → Int32 → Int32 → Int32 → xH → Option (Int32 × xH)) (o0 : Option Nat) (x1 : Int32) (x2 : Int32) (x3 : Int32) (x4 : Int32) (x5 : Int32) (h : xH) : Option (Int32 × xH) := j185_52 k5 o0 x1 x2 x3 x4 x5 0 h
theorem j185_51_ok {xs : List Int32} {d : Nat} (hd : 2 ≤ d) {k5 : Option Nat → Int32 → Int32 → Int32 → Int32 → xH → Option (Int32 × xH)} (hk5 : ∀ {u5 : Value} {u6 : Value} {u7 : Value} {o0 : Option Nat} {x1 : Int32} {x2 : Int32} {x3 : Int32} {x4 : Int32} {h : xH} {r : (Int32 × xH)}, u5.category = 1 → u6.category = 1 → u7.category = 1 → k5 o0 x1 x2 x3 x4 h = some r → xEv (xTa xs) d 185 (5, [xrv o0, .int x1, .int x2, .int x3, .int x4, u5, u6, u7], [], h) (some (.int r.1), r.2)) {u6 : Value} {u7 : Value} {o0 : Option Nat} {x1 : Int32} {x2 : Int32} {x3 : Int32} {x4 : Int32} {x5 : Int32} {h : xH} {r : (Int32 × xH)} (hu6 : u6.category = 1) (hu7 : u7.category = 1) (hf : j185_51 k5 o0 x1 x2 x3 x4 x5 h = some r) : xEv (xTa xs) d 185 (51, [xrv o0, .int x1, .int x2, .int x3, .int x4, .int x5, u6, u7], [], h) (some (.int r.1), r.2) := by
  unfold j185_51 at hf
  refine ev_do i185_51 rfl ?_
  exact j185_52_ok hd hk5 hu6 hu7 hf
def l185_5  : Nat → Option Nat → Int32 → Int32 → Int32 → Int32 → xH → Option (Int32 × xH)
  | 0 => fun _ _ _ _ _ _ => none
  | n + 1 => fun o0 x1 x2 x3 x4 h => (xgR h o0 11 14).bind fun a_1 => (xaI h 13 a_1 40).bind fun v_2 => (if v_2 ≤ x4 then (if x3 &&& 1 = x3 then some (x3, h) else none) else (xgR h o0 11 16).bind fun a_5 => (xaI h 13 a_5 (960 + x4)).bind fun v_6 => (if v_6 = 2 then (xgR h o0 11 22).bind fun a_8 => (xaI h 13 a_8 (960 + x4)).bind fun v_9 => (if v_9 = x2 then j185_52 (l185_5 n) o0 x1 x2 x3 x4 (960 + x4) 1 h else j185_51 (l185_5 n) o0 x1 x2 x3 x4 (960 + x4) h) else j185_51 (l185_5 n) o0 x1 x2 x3 x4 (960 + x4) h))
theorem l185_5_ok {xs : List Int32} {d : Nat} (hd : 2 ≤ d) : ∀ (n : Nat) {u5 : Value} {u6 : Value} {u7 : Value} {o0 : Option Nat} {x1 : Int32} {x2 : Int32} {x3 : Int32} {x4 : Int32} {h : xH} {r : (Int32 × xH)} (hu5 : u5.category = 1) (hu6 : u6.category = 1) (hu7 : u7.category = 1), l185_5 n o0 x1 x2 x3 x4 h = some r → xEv (xTa xs) d 185 (5, [xrv o0, .int x1, .int x2, .int x3, .int x4, u5, u6, u7], [], h) (some (.int r.1), r.2) := by
  intro n
  induction n with
  | zero => intros; rename_i hf; cases hf
  | succ n ih =>
    intro u5 u6 u7 o0 x1 x2 x3 x4 h r hu5 hu6 hu7 hf
    replace hf : ((xgR h o0 11 14).bind fun a_1 => (xaI h 13 a_1 40).bind fun v_2 => (if v_2 ≤ x4 then (if x3 &&& 1 = x3 then some (x3, h) else none) else (xgR h o0 11 16).bind fun a_5 => (xaI h 13 a_5 (960 + x4)).bind fun v_6 => (if v_6 = 2 then (xgR h o0 11 22).bind fun a_8 => (xaI h 13 a_8 (960 + x4)).bind fun v_9 => (if v_9 = x2 then j185_52 (l185_5 n) o0 x1 x2 x3 x4 (960 + x4) 1 h else j185_51 (l185_5 n) o0 x1 x2 x3 x4 (960 + x4) h) else j185_51 (l185_5 n) o0 x1 x2 x3 x4 (960 + x4) h))) = some r := hf
    refine ev_do i185_5 rfl ?_
    refine sh_aload (i' := 0) (n := 1) i185_7 (Or.inr ⟨rfl, by decide⟩) rfl ?_
    obtain ⟨a_1, ea_1, hf⟩ := x_bind hf
    refine sh_getR i185_8 f185_47 ea_1 ?_
    refine ev_do i185_11 rfl ?_
    obtain ⟨v_2, ev_2, hf⟩ := x_bind hf
    refine sh_aldI (tg := 13) i185_13 (Or.inl ⟨rfl, rfl⟩) ev_2 ?_
    refine ev_icmp (t := 127) i185_14 rfl (fun c_3 => ?_) (fun c_3 => ?_)
    · replace hf := x_pos (show v_2 ≤ x4 from c_3) hf
      refine ev_do i185_127 rfl ?_
      by_cases c_4 : x3 &&& 1 = x3
      · replace hf := x_pos c_4 hf
        obtain rfl := Option.some.inj hf
        exact sh_iret i185_128 m185 rfl (congrArg Value.int c_4)
      · replace hf := x_neg c_4 hf
        cases hf
    · replace hf := x_neg (show ¬ v_2 ≤ x4 from c_3) hf
      refine ev_do i185_17 rfl ?_
      refine ev_do i185_20 rfl ?_
      refine ev_do i185_22 rfl ?_
      refine sh_istore (i' := 5) (n := 2) i185_23 (Or.inl rfl) (xokst_of (Nat.le_of_ble_eq_true rfl) rfl) ?_
      refine sh_aload (i' := 0) (n := 1) i185_25 (Or.inr ⟨rfl, by decide⟩) rfl ?_
      obtain ⟨a_5, ea_5, hf⟩ := x_bind hf
      refine sh_getR i185_26 f185_53 ea_5 ?_
      refine ev_do i185_29 rfl ?_
      obtain ⟨v_6, ev_6, hf⟩ := x_bind hf
      refine sh_aldI (tg := 13) i185_31 (Or.inl ⟨rfl, rfl⟩) ev_6 ?_
      refine ev_do i185_32 rfl ?_
      refine ev_icmp (t := 51) i185_33 rfl (fun c_7 => ?_) (fun c_7 => ?_)
      · replace hf := x_neg (show ¬ v_6 = 2 from c_7) hf
        exact j185_51_ok hd ih hu6 hu7 hf
      · replace hf := x_pos (show v_6 = 2 from Decidable.byContradiction (fun h9 => c_7 h9)) hf
        refine sh_aload (i' := 0) (n := 1) i185_36 (Or.inr ⟨rfl, by decide⟩) rfl ?_
        obtain ⟨a_8, ea_8, hf⟩ := x_bind hf
        refine sh_getR i185_37 f185_71 ea_8 ?_
        refine ev_do i185_40 rfl ?_
        obtain ⟨v_9, ev_9, hf⟩ := x_bind hf
        refine sh_aldI (tg := 13) i185_42 (Or.inl ⟨rfl, rfl⟩) ev_9 ?_
        refine ev_do i185_43 rfl ?_
        refine ev_icmp (t := 51) i185_44 rfl (fun c_10 => ?_) (fun c_10 => ?_)
        · replace hf := x_neg (show ¬ v_9 = x2 from c_10) hf
          exact j185_51_ok hd ih hu6 hu7 hf
        · replace hf := x_pos (show v_9 = x2 from Decidable.byContradiction (fun h9 => c_10 h9)) hf
          refine ev_do i185_47 rfl ?_
          refine sh_goto (t := 52) i185_48 rfl ?_
          exact j185_52_ok hd ih hu6 hu7 hf
def fn185 (o0 : Option Nat) (x1 : Int32) (x2 : Int32) (h : xH) : Option (Int32 × xH) := l185_5 xFuel o0 x1 x2 0 0 h
theorem fn185_call {xs : List Int32} {d : Nat} (hd : 3 ≤ d) {o0 : Option Nat} {x1 : Int32} {x2 : Int32} {h : xH} {r : (Int32 × xH)} (hf : fn185 o0 x1 x2 h = some r) : xCall (xTa xs) d 185 [xrv o0, .int x1, .int x2] h (some (.int r.1), r.2) := by
  obtain ⟨d, rfl⟩ : ∃ d2, d = d2 + 1 := ⟨d - 1, by omega⟩
  replace hd : 2 ≤ d := by omega
  refine call_of2 (fl := [xrv o0, .int x1, .int x2]) (Ls := [xrv o0, .int x1, .int x2, .float 0, .float 0, .float 0, .float 0, .float 0]) m185 (by simp [xfl, xrv_cat, xc_i, xc_j, xc_a, xc_f]) (Nat.le_of_ble_eq_true rfl) rfl ?_
  unfold fn185 at hf
  refine ev_do i185_0 rfl ?_
  refine sh_istore (i' := 3) (n := 1) i185_1 (Or.inr ⟨rfl, by decide⟩) (xokst_of (Nat.le_of_ble_eq_true rfl) rfl) ?_
  refine ev_do i185_2 rfl ?_
  refine sh_istore (i' := 4) (n := 2) i185_3 (Or.inl rfl) (xokst_of (Nat.le_of_ble_eq_true rfl) rfl) ?_
  exact l185_5_ok hd xFuel rfl rfl rfl hf
end
section
def j186_122  (o0 : Option Nat) (x1 : Int32) (x2 : Int32) (x3 : Int32) (x4 : Int32) (x5 : Int32) (x6 : Int32) (h : xH) : Option (Int32 × xH) := (if x5 &&& 1 = x5 then some (x5, h) else none)
theorem j186_122_ok {xs : List Int32} {d : Nat} (hd : 5 ≤ d) {o0 : Option Nat} {x1 : Int32} {x2 : Int32} {x3 : Int32} {x4 : Int32} {x5 : Int32} {x6 : Int32} {h : xH} {r : (Int32 × xH)} (hf : j186_122 o0 x1 x2 x3 x4 x5 x6 h = some r) : xEv (xTa xs) d 186 (122, [xrv o0, .int x1, .int x2, .int x3, .int x4, .int x5, .int x6], [], h) (some (.int r.1), r.2) := by
  unfold j186_122 at hf
  refine ev_do i186_122 rfl ?_
  by_cases c_1 : x5 &&& 1 = x5
  · replace hf := x_pos c_1 hf
    obtain rfl := Option.some.inj hf
    exact sh_iret i186_124 m186 rfl (congrArg Value.int c_1)
  · replace hf := x_neg c_1 hf
    cases hf
def l186_94  : Nat → Option Nat → Int32 → Int32 → Int32 → Int32 → Int32 → Int32 → xH → Option (Int32 × xH)
  | 0 => fun _ _ _ _ _ _ _ _ => none
  | n + 1 => fun o0 x1 x2 x3 x4 x5 x6 h => (if x3 ≤ x6 then j186_122 o0 x1 x2 x3 x4 x5 x6 h else (if x5 = 0 then j186_122 o0 x1 x2 x3 x4 x5 x6 h else (xcv h o0 11).bind fun _ => (fn167 o0 x6 h).bind fun r_3 => (fn147 r_3.1 r_3.2).bind fun r_4 => l186_94 n o0 x1 x2 x3 x4 r_4.1 (x6 + 1) r_4.2))
theorem l186_94_ok {xs : List Int32} {d : Nat} (hd : 5 ≤ d) : ∀ (n : Nat) {o0 : Option Nat} {x1 : Int32} {x2 : Int32} {x3 : Int32} {x4 : Int32} {x5 : Int32} {x6 : Int32} {h : xH} {r : (Int32 × xH)}, l186_94 n o0 x1 x2 x3 x4 x5 x6 h = some r → xEv (xTa xs) d 186 (94, [xrv o0, .int x1, .int x2, .int x3, .int x4, .int x5, .int x6], [], h) (some (.int r.1), r.2) := by
  intro n
  induction n with
  | zero => intros; rename_i hf; cases hf
  | succ n ih =>
    intro o0 x1 x2 x3 x4 x5 x6 h r hf
    replace hf : ((if x3 ≤ x6 then j186_122 o0 x1 x2 x3 x4 x5 x6 h else (if x5 = 0 then j186_122 o0 x1 x2 x3 x4 x5 x6 h else (xcv h o0 11).bind fun _ => (fn167 o0 x6 h).bind fun r_3 => (fn147 r_3.1 r_3.2).bind fun r_4 => l186_94 n o0 x1 x2 x3 x4 r_4.1 (x6 + 1) r_4.2))) = some r := hf
    refine ev_do i186_94 rfl ?_
    refine ev_do i186_96 rfl ?_
    refine ev_icmp (t := 122) i186_97 rfl (fun c_1 => ?_) (fun c_1 => ?_)
    · replace hf := x_pos (show x3 ≤ x6 from c_1) hf
      exact j186_122_ok hd hf
    · replace hf := x_neg (show ¬ x3 ≤ x6 from c_1) hf
      refine ev_do i186_100 rfl ?_
      refine ev_if (t := 122) i186_102 rfl (fun c_2 => ?_) (fun c_2 => ?_)
      · replace hf := x_pos (show x5 = 0 from c_2) hf
        exact j186_122_ok hd hf
      · replace hf := x_neg (show ¬ x5 = 0 from c_2) hf
        refine sh_aload (i' := 0) (n := 1) i186_105 (Or.inr ⟨rfl, by decide⟩) rfl ?_
        refine ev_do i186_106 rfl ?_
        obtain ⟨_, eu_5, hf⟩ := x_bind hf
        obtain ⟨r_3, er_3, hf⟩ := x_bind hf
        refine sh_inv (as := [.int x6]) (z := (some (.int r_3.1), r_3.2)) i186_108 v186_227 (Or.inl ⟨by decide, rfl⟩) m167 rfl (Nat.le_of_ble_eq_true rfl) eu_5 (fn167_call (by omega) er_3) ?_
        obtain ⟨r_4, er_4, hf⟩ := x_bind hf
        refine ev_sta (as := [.int r_3.1]) (z := (some (.int r_4.1), r_4.2)) i186_111 v186_171 (Or.inl rfl) m147 rfl (Nat.le_of_ble_eq_true rfl) (fn147_call (by omega) er_4) ?_
        refine sh_istore (i' := 5) (n := 2) i186_114 (Or.inl rfl) (xokst_of (Nat.le_of_ble_eq_true rfl) rfl) ?_
        refine sh_inc (i' := 6) i186_116 rfl (xokst_of (Nat.le_of_ble_eq_true rfl) rfl) rfl ?_
        refine sh_goto (t := 94) i186_119 rfl ?_
        exact ih hf
def j186_81  (o0 : Option Nat) (x1 : Int32) (x2 : Int32) (x3 : Int32) (x4 : Int32) (s0 : Int32) (h : xH) : Option (Int32 × xH) := (if s0 &&& 1 = s0 then some (s0, h) else none)
theorem j186_81_ok {xs : List Int32} {d : Nat} (hd : 5 ≤ d) {u5 : Value} {u6 : Value} {o0 : Option Nat} {x1 : Int32} {x2 : Int32} {x3 : Int32} {x4 : Int32} {s0 : Int32} {h : xH} {r : (Int32 × xH)} (hu5 : u5.category = 1) (hu6 : u6.category = 1) (hf : j186_81 o0 x1 x2 x3 x4 s0 h = some r) : xEv (xTa xs) d 186 (81, [xrv o0, .int x1, .int x2, .int x3, .int x4, u5, u6], [.int s0], h) (some (.int r.1), r.2) := by
  unfold j186_81 at hf
  by_cases c_1 : s0 &&& 1 = s0
  · replace hf := x_pos c_1 hf
    obtain rfl := Option.some.inj hf
    exact sh_iret i186_81 m186 rfl (congrArg Value.int c_1)
  · replace hf := x_neg c_1 hf
    cases hf
def j186_80  (o0 : Option Nat) (x1 : Int32) (x2 : Int32) (x3 : Int32) (x4 : Int32) (h : xH) : Option (Int32 × xH) := j186_81 o0 x1 x2 x3 x4 0 h
theorem j186_80_ok {xs : List Int32} {d : Nat} (hd : 5 ≤ d) {u5 : Value} {u6 : Value} {o0 : Option Nat} {x1 : Int32} {x2 : Int32} {x3 : Int32} {x4 : Int32} {h : xH} {r : (Int32 × xH)} (hu5 : u5.category = 1) (hu6 : u6.category = 1) (hf : j186_80 o0 x1 x2 x3 x4 h = some r) : xEv (xTa xs) d 186 (80, [xrv o0, .int x1, .int x2, .int x3, .int x4, u5, u6], [], h) (some (.int r.1), r.2) := by
  unfold j186_80 at hf
  refine ev_do i186_80 rfl ?_
  exact j186_81_ok hd hu5 hu6 hf
def j186_42  (o0 : Option Nat) (x1 : Int32) (x2 : Int32) (x3 : Int32) (x4 : Int32) (s0 : Int32) (h : xH) : Option (Int32 × xH) := (if s0 &&& 1 = s0 then some (s0, h) else none)
theorem j186_42_ok {xs : List Int32} {d : Nat} (hd : 5 ≤ d) {u5 : Value} {u6 : Value} {o0 : Option Nat} {x1 : Int32} {x2 : Int32} {x3 : Int32} {x4 : Int32} {s0 : Int32} {h : xH} {r : (Int32 × xH)} (hu5 : u5.category = 1) (hu6 : u6.category = 1) (hf : j186_42 o0 x1 x2 x3 x4 s0 h = some r) : xEv (xTa xs) d 186 (42, [xrv o0, .int x1, .int x2, .int x3, .int x4, u5, u6], [.int s0], h) (some (.int r.1), r.2) := by
  unfold j186_42 at hf
  by_cases c_1 : s0 &&& 1 = s0
  · replace hf := x_pos c_1 hf
    obtain rfl := Option.some.inj hf
    exact sh_iret i186_42 m186 rfl (congrArg Value.int c_1)
  · replace hf := x_neg c_1 hf
    cases hf
def j186_41  (o0 : Option Nat) (x1 : Int32) (x2 : Int32) (x3 : Int32) (x4 : Int32) (h : xH) : Option (Int32 × xH) := j186_42 o0 x1 x2 x3 x4 0 h
theorem j186_41_ok {xs : List Int32} {d : Nat} (hd : 5 ≤ d) {u5 : Value} {u6 : Value} {o0 : Option Nat} {x1 : Int32} {x2 : Int32} {x3 : Int32} {x4 : Int32} {h : xH} {r : (Int32 × xH)} (hu5 : u5.category = 1) (hu6 : u6.category = 1) (hf : j186_41 o0 x1 x2 x3 x4 h = some r) : xEv (xTa xs) d 186 (41, [xrv o0, .int x1, .int x2, .int x3, .int x4, u5, u6], [], h) (some (.int r.1), r.2) := by
  unfold j186_41 at hf
  refine ev_do i186_41 rfl ?_
  exact j186_42_ok hd hu5 hu6 hf
def fn186 (o0 : Option Nat) (x1 : Int32) (x2 : Int32) (x3 : Int32) (h : xH) : Option (Int32 × xH) := (if x1 = 2 then (if (x3 - x2) ≤ 0 then j186_41 o0 x1 x2 x3 (x3 - x2) h else (xgR h o0 11 12).bind fun a_3 => (fn162 a_3 (24000 + x2) (24000 + x3) h).bind fun r_4 => (if r_4.1 = (x3 - x2) then j186_42 o0 x1 x2 x3 (x3 - x2) 1 r_4.2 else j186_41 o0 x1 x2 x3 (x3 - x2) r_4.2)) else (if x1 = 6 then (fn141 (x3 - x2) 1 4 h).bind fun r_7 => l186_94 xFuel o0 x1 x2 x3 (x3 - x2) r_7.1 x2 r_7.2 else (if (x3 - x2) ≤ 0 then j186_80 o0 x1 x2 x3 (x3 - x2) h else (xgR h o0 11 12).bind fun a_9 => (fn163 a_9 (24000 + x2) (24000 + x3) h).bind fun r_10 => (if r_10.1 = (x3 - x2) then j186_81 o0 x1 x2 x3 (x3 - x2) 1 r_10.2 else j186_80 o0 x1 x2 x3 (x3 - x2) r_10.2))))
theorem fn186_call {xs : List Int32} {d : Nat} (hd : 6 ≤ d) {o0 : Option Nat} {x1 : Int32} {x2 : Int32} {x3 : Int32} {h : xH} {r : (Int32 × xH)} (hf : fn186 o0 x1 x2 x3 h = some r) : xCall (xTa xs) d 186 [xrv o0, .int x1, .int x2, .int x3] h (some (.int r.1), r.2) := by
  obtain ⟨d, rfl⟩ : ∃ d2, d = d2 + 1 := ⟨d - 1, by omega⟩
  replace hd : 5 ≤ d := by omega
  refine call_of2 (fl := [xrv o0, .int x1, .int x2, .int x3]) (Ls := [xrv o0, .int x1, .int x2, .int x3, .float 0, .float 0, .float 0]) m186 (by simp [xfl, xrv_cat, xc_i, xc_j, xc_a, xc_f]) (Nat.le_of_ble_eq_true rfl) rfl ?_
  unfold fn186 at hf
  refine ev_do i186_0 rfl ?_
  refine ev_do i186_1 rfl ?_
  refine ev_do i186_2 rfl ?_
  refine sh_istore (i' := 4) (n := 2) i186_3 (Or.inl rfl) (xokst_of (Nat.le_of_ble_eq_true rfl) rfl) ?_
  refine ev_do i186_5 rfl ?_
  refine ev_do i186_6 rfl ?_
  refine ev_icmp (t := 43) i186_7 rfl (fun c_1 => ?_) (fun c_1 => ?_)
  · replace hf := x_neg (show ¬ x1 = 2 from c_1) hf
    refine ev_do i186_43 rfl ?_
    refine ev_do i186_44 rfl ?_
    refine ev_icmp (t := 82) i186_46 rfl (fun c_6 => ?_) (fun c_6 => ?_)
    · replace hf := x_pos (show x1 = 6 from c_6) hf
      refine ev_do i186_82 rfl ?_
      refine ev_do i186_84 rfl ?_
      refine ev_do i186_85 rfl ?_
      obtain ⟨r_7, er_7, hf⟩ := x_bind hf
      refine ev_sta (as := [.int 4, .int 1, .int (x3 - x2)]) (z := (some (.int r_7.1), r_7.2)) i186_86 v186_154 (Or.inl rfl) m141 rfl (Nat.le_of_ble_eq_true rfl) (fn141_call (by omega) er_7) ?_
      refine sh_istore (i' := 5) (n := 2) i186_89 (Or.inl rfl) (xokst_of (Nat.le_of_ble_eq_true rfl) rfl) ?_
      refine ev_do i186_91 rfl ?_
      refine sh_istore (i' := 6) (n := 2) i186_92 (Or.inl rfl) (xokst_of (Nat.le_of_ble_eq_true rfl) rfl) ?_
      exact l186_94_ok hd xFuel hf
    · replace hf := x_neg (show ¬ x1 = 6 from c_6) hf
      refine ev_do i186_49 rfl ?_
      refine ev_if (t := 80) i186_51 rfl (fun c_8 => ?_) (fun c_8 => ?_)
      · replace hf := x_pos (show (x3 - x2) ≤ 0 from c_8) hf
        exact j186_80_ok hd rfl rfl hf
      · replace hf := x_neg (show ¬ (x3 - x2) ≤ 0 from c_8) hf
        refine sh_aload (i' := 0) (n := 1) i186_54 (Or.inr ⟨rfl, by decide⟩) rfl ?_
        obtain ⟨a_9, ea_9, hf⟩ := x_bind hf
        refine sh_getR i186_55 f186_41 ea_9 ?_
        refine ev_do i186_58 rfl ?_
        refine ev_do i186_61 rfl ?_
        refine ev_do i186_62 rfl ?_
        refine ev_do i186_63 rfl ?_
        refine ev_do i186_66 rfl ?_
        refine ev_do i186_67 rfl ?_
        obtain ⟨r_10, er_10, hf⟩ := x_bind hf
        refine ev_sta (as := [.int (24000 + x3), .int (24000 + x2), xrv a_9]) (z := (some (.int r_10.1), r_10.2)) i186_68 v186_212 (Or.inl rfl) m163 rfl (Nat.le_of_ble_eq_true rfl) (fn163_call (by omega) er_10) ?_
        refine ev_do i186_71 rfl ?_
        refine ev_icmp (t := 80) i186_73 rfl (fun c_11 => ?_) (fun c_11 => ?_)
        · replace hf := x_neg (show ¬ r_10.1 = (x3 - x2) from c_11) hf
          exact j186_80_ok hd rfl rfl hf
        · replace hf := x_pos (show r_10.1 = (x3 - x2) from Decidable.byContradiction (fun h9 => c_11 h9)) hf
          refine ev_do i186_76 rfl ?_
          refine sh_goto (t := 81) i186_77 rfl ?_
          exact j186_81_ok hd rfl rfl hf
  · replace hf := x_pos (show x1 = 2 from Decidable.byContradiction (fun h9 => c_1 h9)) hf
    refine ev_do i186_10 rfl ?_
    refine ev_if (t := 41) i186_12 rfl (fun c_2 => ?_) (fun c_2 => ?_)
    · replace hf := x_pos (show (x3 - x2) ≤ 0 from c_2) hf
      exact j186_41_ok hd rfl rfl hf
    · replace hf := x_neg (show ¬ (x3 - x2) ≤ 0 from c_2) hf
      refine sh_aload (i' := 0) (n := 1) i186_15 (Or.inr ⟨rfl, by decide⟩) rfl ?_
      obtain ⟨a_3, ea_3, hf⟩ := x_bind hf
      refine sh_getR i186_16 f186_41 ea_3 ?_
      refine ev_do i186_19 rfl ?_
      refine ev_do i186_22 rfl ?_
      refine ev_do i186_23 rfl ?_
      refine ev_do i186_24 rfl ?_
      refine ev_do i186_27 rfl ?_
      refine ev_do i186_28 rfl ?_
      obtain ⟨r_4, er_4, hf⟩ := x_bind hf
      refine ev_sta (as := [.int (24000 + x3), .int (24000 + x2), xrv a_3]) (z := (some (.int r_4.1), r_4.2)) i186_29 v186_205 (Or.inl rfl) m162 rfl (Nat.le_of_ble_eq_true rfl) (fn162_call (by omega) er_4) ?_
      refine ev_do i186_32 rfl ?_
      refine ev_icmp (t := 41) i186_34 rfl (fun c_5 => ?_) (fun c_5 => ?_)
      · replace hf := x_neg (show ¬ r_4.1 = (x3 - x2) from c_5) hf
        exact j186_41_ok hd rfl rfl hf
      · replace hf := x_pos (show r_4.1 = (x3 - x2) from Decidable.byContradiction (fun h9 => c_5 h9)) hf
        refine ev_do i186_37 rfl ?_
        refine sh_goto (t := 42) i186_38 rfl ?_
        exact j186_42_ok hd rfl rfl hf
end
section
def j187_214  (o0 : Option Nat) (x1 : Int32) (x2 : Int32) (x3 : Int32) (x4 : Int32) (h : xH) : Option xH := some h
theorem j187_214_ok {xs : List Int32} {d : Nat} (hd : 8 ≤ d) {u5 : Value} {o0 : Option Nat} {x1 : Int32} {x2 : Int32} {x3 : Int32} {x4 : Int32} {h : xH} {r : xH} (hu5 : u5.category = 1) (hf : j187_214 o0 x1 x2 x3 x4 h = some r) : xEv (xTa xs) d 187 (214, [xrv o0, .int x1, .int x2, .int x3, .int x4, u5], [], h) (none, r) := by
  unfold j187_214 at hf
  obtain rfl := Option.some.inj hf
  exact sh_vret i187_214 m187 rfl
def j187_206  (o0 : Option Nat) (x1 : Int32) (x2 : Int32) (x3 : Int32) (x4 : Int32) (x5 : Int32) (h : xH) : Option xH := j187_214 o0 x1 x2 x3 x4 h
theorem j187_206_ok {xs : List Int32} {d : Nat} (hd : 8 ≤ d) {o0 : Option Nat} {x1 : Int32} {x2 : Int32} {x3 : Int32} {x4 : Int32} {x5 : Int32} {h : xH} {r : xH} (hf : j187_206 o0 x1 x2 x3 x4 x5 h = some r) : xEv (xTa xs) d 187 (206, [xrv o0, .int x1, .int x2, .int x3, .int x4, .int x5], [], h) (none, r) := by
  unfold j187_206 at hf
  refine sh_goto (t := 214) i187_206 rfl ?_
  exact j187_214_ok hd rfl hf
def j187_183  (o0 : Option Nat) (x1 : Int32) (x2 : Int32) (x3 : Int32) (x4 : Int32) (h : xH) : Option xH := (xcv h o0 11).bind fun _ => (fn169 o0 x2 h).bind fun r_1 => (xgI r_1.2 o0 11 37).bind fun v_2 => (if v_2 ≤ r_1.1 then j187_206 o0 x1 x2 x3 x4 r_1.1 r_1.2 else (xcv r_1.2 o0 11).bind fun _ => (fn166 o0 2 r_1.1 r_1.2).bind fun h_4 => j187_206 o0 x1 x2 x3 x4 r_1.1 h_4)
theorem j187_183_ok {xs : List Int32} {d : Nat} (hd : 8 ≤ d) {u5 : Value} {o0 : Option Nat} {x1 : Int32} {x2 : Int32} {x3 : Int32} {x4 : Int32} {h : xH} {r : xH} (hu5 : u5.category = 1) (hf : j187_183 o0 x1 x2 x3 x4 h = some r) : xEv (xTa xs) d 187 (183, [xrv o0, .int x1, .int x2, .int x3, .int x4, u5], [], h) (none, r) := by
  unfold j187_183 at hf
  refine sh_aload (i' := 0) (n := 1) i187_183 (Or.inr ⟨rfl, by decide⟩) rfl ?_
  refine ev_do i187_184 rfl ?_
  obtain ⟨_, eu_6, hf⟩ := x_bind hf
  obtain ⟨r_1, er_1, hf⟩ := x_bind hf
  refine sh_inv (as := [.int x2]) (z := (some (.int r_1.1), r_1.2)) i187_185 v187_255 (Or.inl ⟨by decide, rfl⟩) m169 rfl (Nat.le_of_ble_eq_true rfl) eu_6 (fn169_call (by omega) er_1) ?_
  refine sh_istore (i' := 5) (n := 2) i187_188 (Or.inl rfl) (xokst_of (Nat.le_of_ble_eq_true rfl) rfl) ?_
  refine ev_do i187_190 rfl ?_
  refine sh_aload (i' := 0) (n := 1) i187_192 (Or.inr ⟨rfl, by decide⟩) rfl ?_
  obtain ⟨v_2, ev_2, hf⟩ := x_bind hf
  refine sh_getI i187_193 f187_224 ev_2 ?_
  refine ev_icmp (t := 206) i187_196 rfl (fun c_3 => ?_) (fun c_3 => ?_)
  · replace hf := x_pos (show v_2 ≤ r_1.1 from c_3) hf
    exact j187_206_ok hd hf
  · replace hf := x_neg (show ¬ v_2 ≤ r_1.1 from c_3) hf
    refine sh_aload (i' := 0) (n := 1) i187_199 (Or.inr ⟨rfl, by decide⟩) rfl ?_
    refine ev_do i187_200 rfl ?_
    refine ev_do i187_201 rfl ?_
    obtain ⟨_, eu_5, hf⟩ := x_bind hf
    obtain ⟨h_4, eh_4, hf⟩ := x_bind hf
    refine sh_inv (as := [.int r_1.1, .int 2]) (z := (none, h_4)) i187_203 v187_267 (Or.inl ⟨by decide, rfl⟩) m166 rfl (Nat.le_of_ble_eq_true rfl) eu_5 (fn166_call (by omega) eh_4) ?_
    exact j187_206_ok hd hf
def j187_136  (o0 : Option Nat) (x1 : Int32) (x2 : Int32) (x3 : Int32) (x4 : Int32) (h : xH) : Option xH := (xpF h o0 11 35 .boolean (.int 1)).bind fun h_1 => (xcv h_1 o0 11).bind fun _ => (fn173 o0 x3 0 x1 h_1).bind fun h_2 => (xgR h_2 o0 11 21).bind fun a_3 => (xcv h_2 o0 11).bind fun _ => (fn174 o0 h_2).bind fun r_4 => (xaS r_4.2 13 (fun x => x) a_3 r_4.1 x4).bind fun h_5 => (xgR h_5 o0 11 22).bind fun a_6 => (xcv h_5 o0 11).bind fun _ => (fn174 o0 h_5).bind fun r_7 => (xaS r_7.2 13 (fun x => x) a_6 r_7.1 (x2 - x4)).bind fun h_8 => (if x3 = 5 then j187_183 o0 x1 x2 x3 x4 h_8 else (if x3 = 6 then j187_183 o0 x1 x2 x3 x4 h_8 else (xcv h_8 o0 11).bind fun _ => (fn175 o0 x2 h_8).bind fun h_11 => j187_214 o0 x1 x2 x3 x4 h_11))
theorem j187_136_ok {xs : List Int32} {d : Nat} (hd : 8 ≤ d) {u5 : Value} {o0 : Option Nat} {x1 : Int32} {x2 : Int32} {x3 : Int32} {x4 : Int32} {h : xH} {r : xH} (hu5 : u5.category = 1) (hf : j187_136 o0 x1 x2 x3 x4 h = some r) : xEv (xTa xs) d 187 (136, [xrv o0, .int x1, .int x2, .int x3, .int x4, u5], [], h) (none, r) := by
  unfold j187_136 at hf
  refine sh_aload (i' := 0) (n := 1) i187_136 (Or.inr ⟨rfl, by decide⟩) rfl ?_
  refine ev_do i187_137 rfl ?_
  obtain ⟨h_1, eh_1, hf⟩ := x_bind hf
  refine sh_put i187_138 f187_278 (by decide) rfl eh_1 ?_
  refine sh_aload (i' := 0) (n := 1) i187_141 (Or.inr ⟨rfl, by decide⟩) rfl ?_
  refine ev_do i187_142 rfl ?_
  refine ev_do i187_143 rfl ?_
  refine ev_do i187_144 rfl ?_
  obtain ⟨_, eu_15, hf⟩ := x_bind hf
  obtain ⟨h_2, eh_2, hf⟩ := x_bind hf
  refine sh_inv (as := [.int x1, .int 0, .int x3]) (z := (none, h_2)) i187_145 v187_301 (Or.inl ⟨by decide, rfl⟩) m173 rfl (Nat.le_of_ble_eq_true rfl) eu_15 (fn173_call (by omega) eh_2) ?_
  refine sh_aload (i' := 0) (n := 1) i187_148 (Or.inr ⟨rfl, by decide⟩) rfl ?_
  obtain ⟨a_3, ea_3, hf⟩ := x_bind hf
  refine sh_getR i187_149 f187_68 ea_3 ?_
  refine sh_aload (i' := 0) (n := 1) i187_152 (Or.inr ⟨rfl, by decide⟩) rfl ?_
  obtain ⟨_, eu_14, hf⟩ := x_bind hf
  obtain ⟨r_4, er_4, hf⟩ := x_bind hf
  refine sh_inv (as := []) (z := (some (.int r_4.1), r_4.2)) i187_153 v187_274 (Or.inl ⟨by decide, rfl⟩) m174 rfl (by simp [xcat, xrv_cat, xc_i, xc_j, xc_a, xc_f]) eu_14 (fn174_call (by omega) er_4) ?_
  refine ev_do i187_156 rfl ?_
  obtain ⟨h_5, eh_5, hf⟩ := x_bind hf
  refine sh_ast (tg := 13) i187_158 (Or.inl ⟨rfl, rfl, rfl⟩) eh_5 ?_
  refine sh_aload (i' := 0) (n := 1) i187_159 (Or.inr ⟨rfl, by decide⟩) rfl ?_
  obtain ⟨a_6, ea_6, hf⟩ := x_bind hf
  refine sh_getR i187_160 f187_71 ea_6 ?_
  refine sh_aload (i' := 0) (n := 1) i187_163 (Or.inr ⟨rfl, by decide⟩) rfl ?_
  obtain ⟨_, eu_13, hf⟩ := x_bind hf
  obtain ⟨r_7, er_7, hf⟩ := x_bind hf
  refine sh_inv (as := []) (z := (some (.int r_7.1), r_7.2)) i187_164 v187_274 (Or.inl ⟨by decide, rfl⟩) m174 rfl (by simp [xcat, xrv_cat, xc_i, xc_j, xc_a, xc_f]) eu_13 (fn174_call (by omega) er_7) ?_
  refine ev_do i187_167 rfl ?_
  refine ev_do i187_168 rfl ?_
  refine ev_do i187_170 rfl ?_
  obtain ⟨h_8, eh_8, hf⟩ := x_bind hf
  refine sh_ast (tg := 13) i187_171 (Or.inl ⟨rfl, rfl, rfl⟩) eh_8 ?_
  refine ev_do i187_172 rfl ?_
  refine ev_do i187_173 rfl ?_
  refine ev_icmp (t := 183) i187_174 rfl (fun c_9 => ?_) (fun c_9 => ?_)
  · replace hf := x_pos (show x3 = 5 from c_9) hf
    exact j187_183_ok hd hu5 hf
  · replace hf := x_neg (show ¬ x3 = 5 from c_9) hf
    refine ev_do i187_177 rfl ?_
    refine ev_do i187_178 rfl ?_
    refine ev_icmp (t := 209) i187_180 rfl (fun c_10 => ?_) (fun c_10 => ?_)
    · replace hf := x_neg (show ¬ x3 = 6 from c_10) hf
      refine sh_aload (i' := 0) (n := 1) i187_209 (Or.inr ⟨rfl, by decide⟩) rfl ?_
      refine ev_do i187_210 rfl ?_
      obtain ⟨_, eu_12, hf⟩ := x_bind hf
      obtain ⟨h_11, eh_11, hf⟩ := x_bind hf
      refine sh_inv (as := [.int x2]) (z := (none, h_11)) i187_211 v187_305 (Or.inl ⟨by decide, rfl⟩) m175 rfl (Nat.le_of_ble_eq_true rfl) eu_12 (fn175_call (by omega) eh_11) ?_
      exact j187_214_ok hd hu5 hf
    · replace hf := x_pos (show x3 = 6 from Decidable.byContradiction (fun h9 => c_10 h9)) hf
      exact j187_183_ok hd hu5 hf
def j187_70  (o0 : Option Nat) (x1 : Int32) (x2 : Int32) (x3 : Int32) (h : xH) : Option xH := (if x3 = 3 then j187_136 o0 x1 x2 x3 x2 h else (xcv h o0 11).bind fun _ => (fn169 o0 x2 h).bind fun r_2 => (xcv r_2.2 o0 11).bind fun _ => (fn170 o0 r_2.1 r_2.2).bind fun r_3 => (xcv r_3.2 o0 11).bind fun _ => (fn186 o0 x3 r_2.1 r_3.1 r_3.2).bind fun r_4 => (if r_4.1 = 0 then (xcv r_4.2 o0 11).bind fun _ => (fn166 o0 2 r_2.1 r_4.2).bind fun h_6 => some h_6 else (if x3 = 2 then (xcv r_4.2 o0 11).bind fun _ => (fn185 o0 r_2.1 (r_3.1 - r_2.1) r_4.2).bind fun r_9 => (if r_9.1 = 0 then j187_136 o0 x1 r_3.1 x3 r_2.1 r_9.2 else (xcv r_9.2 o0 11).bind fun _ => (fn166 o0 5 x1 r_9.2).bind fun h_11 => some h_11) else j187_136 o0 x1 r_3.1 x3 r_2.1 r_4.2)))
theorem j187_70_ok {xs : List Int32} {d : Nat} (hd : 8 ≤ d) {u4 : Value} {u5 : Value} {o0 : Option Nat} {x1 : Int32} {x2 : Int32} {x3 : Int32} {h : xH} {r : xH} (hu4 : u4.category = 1) (hu5 : u5.category = 1) (hf : j187_70 o0 x1 x2 x3 h = some r) : xEv (xTa xs) d 187 (70, [xrv o0, .int x1, .int x2, .int x3, u4, u5], [], h) (none, r) := by
  unfold j187_70 at hf
  refine ev_do i187_70 rfl ?_
  refine sh_istore (i' := 4) (n := 2) i187_71 (Or.inl rfl) (xokst_of (Nat.le_of_ble_eq_true rfl) rfl) ?_
  refine ev_do i187_73 rfl ?_
  refine ev_do i187_74 rfl ?_
  refine ev_icmp (t := 136) i187_75 rfl (fun c_1 => ?_) (fun c_1 => ?_)
  · replace hf := x_pos (show x3 = 3 from c_1) hf
    exact j187_136_ok hd hu5 hf
  · replace hf := x_neg (show ¬ x3 = 3 from c_1) hf
    refine sh_aload (i' := 0) (n := 1) i187_78 (Or.inr ⟨rfl, by decide⟩) rfl ?_
    refine ev_do i187_79 rfl ?_
    obtain ⟨_, eu_16, hf⟩ := x_bind hf
    obtain ⟨r_2, er_2, hf⟩ := x_bind hf
    refine sh_inv (as := [.int x2]) (z := (some (.int r_2.1), r_2.2)) i187_80 v187_255 (Or.inl ⟨by decide, rfl⟩) m169 rfl (Nat.le_of_ble_eq_true rfl) eu_16 (fn169_call (by omega) er_2) ?_
    refine sh_istore (i' := 4) (n := 2) i187_83 (Or.inl rfl) (xokst_of (Nat.le_of_ble_eq_true rfl) rfl) ?_
    refine sh_aload (i' := 0) (n := 1) i187_85 (Or.inr ⟨rfl, by decide⟩) rfl ?_
    refine ev_do i187_86 rfl ?_
    obtain ⟨_, eu_15, hf⟩ := x_bind hf
    obtain ⟨r_3, er_3, hf⟩ := x_bind hf
    refine sh_inv (as := [.int r_2.1]) (z := (some (.int r_3.1), r_3.2)) i187_88 v187_329 (Or.inl ⟨by decide, rfl⟩) m170 rfl (Nat.le_of_ble_eq_true rfl) eu_15 (fn170_call (by omega) er_3) ?_
    refine sh_istore (i' := 2) (n := 1) i187_91 (Or.inr ⟨rfl, by decide⟩) (xokst_of (Nat.le_of_ble_eq_true rfl) rfl) ?_
    refine sh_aload (i' := 0) (n := 1) i187_92 (Or.inr ⟨rfl, by decide⟩) rfl ?_
    refine ev_do i187_93 rfl ?_
    refine ev_do i187_94 rfl ?_
    refine ev_do i187_96 rfl ?_
    obtain ⟨_, eu_14, hf⟩ := x_bind hf
    obtain ⟨r_4, er_4, hf⟩ := x_bind hf
    refine sh_inv (as := [.int r_3.1, .int r_2.1, .int x3]) (z := (some (.int r_4.1), r_4.2)) i187_97 v187_338 (Or.inl ⟨by decide, rfl⟩) m186 rfl (Nat.le_of_ble_eq_true rfl) eu_14 (fn186_call (by omega) er_4) ?_
    refine ev_if (t := 111) i187_100 rfl (fun c_5 => ?_) (fun c_5 => ?_)
    · replace hf := x_neg (show ¬ r_4.1 = 0 from c_5) hf
      refine ev_do i187_111 rfl ?_
      refine ev_do i187_112 rfl ?_
      refine ev_icmp (t := 136) i187_113 rfl (fun c_8 => ?_) (fun c_8 => ?_)
      · replace hf := x_neg (show ¬ x3 = 2 from c_8) hf
        exact j187_136_ok hd hu5 hf
      · replace hf := x_pos (show x3 = 2 from Decidable.byContradiction (fun h9 => c_8 h9)) hf
        refine sh_aload (i' := 0) (n := 1) i187_116 (Or.inr ⟨rfl, by decide⟩) rfl ?_
        refine ev_do i187_117 rfl ?_
        refine ev_do i187_119 rfl ?_
        refine ev_do i187_120 rfl ?_
        refine ev_do i187_122 rfl ?_
        obtain ⟨_, eu_13, hf⟩ := x_bind hf
        obtain ⟨r_9, er_9, hf⟩ := x_bind hf
        refine sh_inv (as := [.int (r_3.1 - r_2.1), .int r_2.1]) (z := (some (.int r_9.1), r_9.2)) i187_123 v187_341 (Or.inl ⟨by decide, rfl⟩) m185 rfl (Nat.le_of_ble_eq_true rfl) eu_13 (fn185_call (by omega) er_9) ?_
        refine ev_if (t := 136) i187_126 rfl (fun c_10 => ?_) (fun c_10 => ?_)
        · replace hf := x_pos (show r_9.1 = 0 from c_10) hf
          exact j187_136_ok hd hu5 hf
        · replace hf := x_neg (show ¬ r_9.1 = 0 from c_10) hf
          refine sh_aload (i' := 0) (n := 1) i187_129 (Or.inr ⟨rfl, by decide⟩) rfl ?_
          refine ev_do i187_130 rfl ?_
          refine ev_do i187_131 rfl ?_
          obtain ⟨_, eu_12, hf⟩ := x_bind hf
          obtain ⟨h_11, eh_11, hf⟩ := x_bind hf
          refine sh_inv (as := [.int x1, .int 5]) (z := (none, h_11)) i187_132 v187_267 (Or.inl ⟨by decide, rfl⟩) m166 rfl (Nat.le_of_ble_eq_true rfl) eu_12 (fn166_call (by omega) eh_11) ?_
          obtain rfl := Option.some.inj hf
          exact sh_vret i187_135 m187 rfl
    · replace hf := x_pos (show r_4.1 = 0 from Decidable.byContradiction (fun h9 => c_5 h9)) hf
      refine sh_aload (i' := 0) (n := 1) i187_103 (Or.inr ⟨rfl, by decide⟩) rfl ?_
      refine ev_do i187_104 rfl ?_
      refine ev_do i187_105 rfl ?_
      obtain ⟨_, eu_7, hf⟩ := x_bind hf
      obtain ⟨h_6, eh_6, hf⟩ := x_bind hf
      refine sh_inv (as := [.int r_2.1, .int 2]) (z := (none, h_6)) i187_107 v187_267 (Or.inl ⟨by decide, rfl⟩) m166 rfl (Nat.le_of_ble_eq_true rfl) eu_7 (fn166_call (by omega) eh_6) ?_
      obtain rfl := Option.some.inj hf
      exact sh_vret i187_110 m187 rfl
def j187_55  (o0 : Option Nat) (x1 : Int32) (x2 : Int32) (x3 : Int32) (h : xH) : Option xH := (xcv h o0 11).bind fun _ => (fn184 o0 x3 h).bind fun r_1 => (if r_1.1 = 0 then j187_70 o0 x1 x2 x3 r_1.2 else (xcv r_1.2 o0 11).bind fun _ => (fn166 o0 5 x1 r_1.2).bind fun h_3 => some h_3)
theorem j187_55_ok {xs : List Int32} {d : Nat} (hd : 8 ≤ d) {u4 : Value} {u5 : Value} {o0 : Option Nat} {x1 : Int32} {x2 : Int32} {x3 : Int32} {h : xH} {r : xH} (hu4 : u4.category = 1) (hu5 : u5.category = 1) (hf : j187_55 o0 x1 x2 x3 h = some r) : xEv (xTa xs) d 187 (55, [xrv o0, .int x1, .int x2, .int x3, u4, u5], [], h) (none, r) := by
  unfold j187_55 at hf
  refine sh_aload (i' := 0) (n := 1) i187_55 (Or.inr ⟨rfl, by decide⟩) rfl ?_
  refine ev_do i187_56 rfl ?_
  obtain ⟨_, eu_5, hf⟩ := x_bind hf
  obtain ⟨r_1, er_1, hf⟩ := x_bind hf
  refine sh_inv (as := [.int x3]) (z := (some (.int r_1.1), r_1.2)) i187_57 v187_335 (Or.inl ⟨by decide, rfl⟩) m184 rfl (Nat.le_of_ble_eq_true rfl) eu_5 (fn184_call (by omega) er_1) ?_
  refine ev_if (t := 70) i187_60 rfl (fun c_2 => ?_) (fun c_2 => ?_)
  · replace hf := x_pos (show r_1.1 = 0 from c_2) hf
    exact j187_70_ok hd hu4 hu5 hf
  · replace hf := x_neg (show ¬ r_1.1 = 0 from c_2) hf
    refine sh_aload (i' := 0) (n := 1) i187_63 (Or.inr ⟨rfl, by decide⟩) rfl ?_
    refine ev_do i187_64 rfl ?_
    refine ev_do i187_65 rfl ?_
    obtain ⟨_, eu_4, hf⟩ := x_bind hf
    obtain ⟨h_3, eh_3, hf⟩ := x_bind hf
    refine sh_inv (as := [.int x1, .int 5]) (z := (none, h_3)) i187_66 v187_267 (Or.inl ⟨by decide, rfl⟩) m166 rfl (Nat.le_of_ble_eq_true rfl) eu_4 (fn166_call (by omega) eh_3) ?_
    obtain rfl := Option.some.inj hf
    exact sh_vret i187_69 m187 rfl
def fn187 (o0 : Option Nat) (x1 : Int32) (h : xH) : Option xH := (xcv h o0 11).bind fun _ => (fn170 o0 x1 h).bind fun r_1 => (xcv r_1.2 o0 11).bind fun _ => (fn183 o0 x1 r_1.1 r_1.2).bind fun r_2 => (if r_2.1 = (-1) then (xcv r_2.2 o0 11).bind fun _ => (fn166 o0 2 x1 r_2.2).bind fun h_4 => some h_4 else (xgR r_2.2 o0 11 14).bind fun a_6 => (xaI r_2.2 13 a_6 40).bind fun v_7 => (if v_7 = 24 then (xcv r_2.2 o0 11).bind fun _ => (fn166 o0 4 x1 r_2.2).bind fun h_9 => some h_9 else (if r_2.1 = 3 then j187_55 o0 x1 r_1.1 r_2.1 r_2.2 else (if r_2.1 = 6 then j187_55 o0 x1 r_1.1 r_2.1 r_2.2 else j187_70 o0 x1 r_1.1 r_2.1 r_2.2))))
theorem fn187_call {xs : List Int32} {d : Nat} (hd : 9 ≤ d) {o0 : Option Nat} {x1 : Int32} {h : xH} {r : xH} (hf : fn187 o0 x1 h = some r) : xCall (xTa xs) d 187 [xrv o0, .int x1] h (none, r) := by
  obtain ⟨d, rfl⟩ : ∃ d2, d = d2 + 1 := ⟨d - 1, by omega⟩
  replace hd : 8 ≤ d := by omega
  refine call_of2 (fl := [xrv o0, .int x1]) (Ls := [xrv o0, .int x1, .float 0, .float 0, .float 0, .float 0]) m187 (by simp [xfl, xrv_cat, xc_i, xc_j, xc_a, xc_f]) (Nat.le_of_ble_eq_true rfl) rfl ?_
  unfold fn187 at hf
  refine sh_aload (i' := 0) (n := 1) i187_0 (Or.inr ⟨rfl, by decide⟩) rfl ?_
  refine ev_do i187_1 rfl ?_
  obtain ⟨_, eu_14, hf⟩ := x_bind hf
  obtain ⟨r_1, er_1, hf⟩ := x_bind hf
  refine sh_inv (as := [.int x1]) (z := (some (.int r_1.1), r_1.2)) i187_2 v187_329 (Or.inl ⟨by decide, rfl⟩) m170 rfl (Nat.le_of_ble_eq_true rfl) eu_14 (fn170_call (by omega) er_1) ?_
  refine sh_istore (i' := 2) (n := 1) i187_5 (Or.inr ⟨rfl, by decide⟩) (xokst_of (Nat.le_of_ble_eq_true rfl) rfl) ?_
  refine sh_aload (i' := 0) (n := 1) i187_6 (Or.inr ⟨rfl, by decide⟩) rfl ?_
  refine ev_do i187_7 rfl ?_
  refine ev_do i187_8 rfl ?_
  obtain ⟨_, eu_13, hf⟩ := x_bind hf
  obtain ⟨r_2, er_2, hf⟩ := x_bind hf
  refine sh_inv (as := [.int r_1.1, .int x1]) (z := (some (.int r_2.1), r_2.2)) i187_9 v187_332 (Or.inl ⟨by decide, rfl⟩) m183 rfl (Nat.le_of_ble_eq_true rfl) eu_13 (fn183_call (by omega) er_2) ?_
  refine sh_istore (i' := 3) (n := 1) i187_12 (Or.inr ⟨rfl, by decide⟩) (xokst_of (Nat.le_of_ble_eq_true rfl) rfl) ?_
  refine ev_do i187_13 rfl ?_
  refine ev_do i187_14 rfl ?_
  refine ev_icmp (t := 25) i187_15 rfl (fun c_3 => ?_) (fun c_3 => ?_)
  · replace hf := x_neg (show ¬ r_2.1 = (-1) from c_3) hf
    refine sh_aload (i' := 0) (n := 1) i187_25 (Or.inr ⟨rfl, by decide⟩) rfl ?_
    obtain ⟨a_6, ea_6, hf⟩ := x_bind hf
    refine sh_getR i187_26 f187_47 ea_6 ?_
    refine ev_do i187_29 rfl ?_
    obtain ⟨v_7, ev_7, hf⟩ := x_bind hf
    refine sh_aldI (tg := 13) i187_31 (Or.inl ⟨rfl, rfl⟩) ev_7 ?_
    refine ev_do i187_32 rfl ?_
    refine ev_icmp (t := 44) i187_34 rfl (fun c_8 => ?_) (fun c_8 => ?_)
    · replace hf := x_neg (show ¬ v_7 = 24 from c_8) hf
      refine ev_do i187_44 rfl ?_
      refine ev_do i187_45 rfl ?_
      refine ev_icmp (t := 55) i187_46 rfl (fun c_11 => ?_) (fun c_11 => ?_)
      · replace hf := x_pos (show r_2.1 = 3 from c_11) hf
        exact j187_55_ok hd rfl rfl hf
      · replace hf := x_neg (show ¬ r_2.1 = 3 from c_11) hf
        refine ev_do i187_49 rfl ?_
        refine ev_do i187_50 rfl ?_
        refine ev_icmp (t := 70) i187_52 rfl (fun c_12 => ?_) (fun c_12 => ?_)
        · replace hf := x_neg (show ¬ r_2.1 = 6 from c_12) hf
          exact j187_70_ok hd rfl rfl hf
        · replace hf := x_pos (show r_2.1 = 6 from Decidable.byContradiction (fun h9 => c_12 h9)) hf
          exact j187_55_ok hd rfl rfl hf
    · replace hf := x_pos (show v_7 = 24 from Decidable.byContradiction (fun h9 => c_8 h9)) hf
      refine sh_aload (i' := 0) (n := 1) i187_37 (Or.inr ⟨rfl, by decide⟩) rfl ?_
      refine ev_do i187_38 rfl ?_
      refine ev_do i187_39 rfl ?_
      obtain ⟨_, eu_10, hf⟩ := x_bind hf
      obtain ⟨h_9, eh_9, hf⟩ := x_bind hf
      refine sh_inv (as := [.int x1, .int 4]) (z := (none, h_9)) i187_40 v187_267 (Or.inl ⟨by decide, rfl⟩) m166 rfl (Nat.le_of_ble_eq_true rfl) eu_10 (fn166_call (by omega) eh_9) ?_
      obtain rfl := Option.some.inj hf
      exact sh_vret i187_43 m187 rfl
  · replace hf := x_pos (show r_2.1 = (-1) from Decidable.byContradiction (fun h9 => c_3 h9)) hf
    refine sh_aload (i' := 0) (n := 1) i187_18 (Or.inr ⟨rfl, by decide⟩) rfl ?_
    refine ev_do i187_19 rfl ?_
    refine ev_do i187_20 rfl ?_
    obtain ⟨_, eu_5, hf⟩ := x_bind hf
    obtain ⟨h_4, eh_4, hf⟩ := x_bind hf
    refine sh_inv (as := [.int x1, .int 2]) (z := (none, h_4)) i187_21 v187_267 (Or.inl ⟨by decide, rfl⟩) m166 rfl (Nat.le_of_ble_eq_true rfl) eu_5 (fn166_call (by omega) eh_4) ?_
    obtain rfl := Option.some.inj hf
    exact sh_vret i187_24 m187 rfl
end
