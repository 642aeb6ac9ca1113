section
def j186_122  (o0 : Option Nat) (x1 : Int32) (x2 : Int32) (x3 : Int32) (x4 : Int32) (x5 : Int32) (x6 : Int32) (h : xH) : Option (Int32 × xH) := (if x5 &&& 1 = x5 then some (x5, h) else none)
theorem j186_122_ok {xs : List Int32} {d : Nat} (hd : 5 ≤ d) {o0 : Option Nat} {x1 : Int32} {x2 : Int32} {x3 : Int32} {x4 : Int32} {x5 : Int32} {x6 : Int32} {h : xH} {r : (Int32 × xH)} (hf : j186_122 o0 x1 x2 x3 x4 x5 x6 h = some r) : xEv (xTa xs) d 186 (122, [xrv o0, .int x1, .int x2, .int x3, .int x4, .int x5, .int x6], [], h) (some (.int r.1), r.2) := by
  unfold j186_122 at hf
  refine ev_do i186_122 rfl ?_
  by_cases c_1 : x5 &&& 1 = x5
  · replace hf := x_pos c_1 hf
    obtain rfl := Option.some.inj hf
    exact sh_iret i186_124 m186 rfl (congrArg Value.int c_1)
  · replace hf := x_neg c_1 hf
    cases hf
def l186_94  : Nat → Option Nat → Int32 → Int32 → Int32 → Int32 → Int32 → Int32 → xH → Option (Int32 × xH)
  | 0 => fun _ _ _ _ _ _ _ _ => none
  | n + 1 => fun o0 x1 x2 x3 x4 x5 x6 h => (if x3 ≤ x6 then j186_122 o0 x1 x2 x3 x4 x5 x6 h else (if x5 = 0 then j186_122 o0 x1 x2 x3 x4 x5 x6 h else (xcv h o0 11).bind fun _ => (fn167 o0 x6 h).bind fun r_3 => (fn147 r_3.1 r_3.2).bind fun r_4 => l186_94 n o0 x1 x2 x3 x4 r_4.1 (x6 + 1) r_4.2))
theorem l186_94_ok {xs : List Int32} {d : Nat} (hd : 5 ≤ d) : ∀ (n : Nat) {o0 : Option Nat} {x1 : Int32} {x2 : Int32} {x3 : Int32} {x4 : Int32} {x5 : Int32} {x6 : Int32} {h : xH} {r : (Int32 × xH)}, l186_94 n o0 x1 x2 x3 x4 x5 x6 h = some r → xEv (xTa xs) d 186 (94, [xrv o0, .int x1, .int x2, .int x3, .int x4, .int x5, .int x6], [], h) (some (.int r.1), r.2) := by
  intro n
  induction n with
  | zero => intros; rename_i hf; cases hf
  | succ n ih =>
    intro o0 x1 x2 x3 x4 x5 x6 h r hf
    replace hf : ((if x3 ≤ x6 then j186_122 o0 x1 x2 x3 x4 x5 x6 h else (if x5 = 0 then j186_122 o0 x1 x2 x3 x4 x5 x6 h else (xcv h o0 11).bind fun _ => (fn167 o0 x6 h).bind fun r_3 => (fn147 r_3.1 r_3.2).bind fun r_4 => l186_94 n o0 x1 x2 x3 x4 r_4.1 (x6 + 1) r_4.2))) = some r := hf
    refine ev_do i186_94 rfl ?_
    refine ev_do i186_96 rfl ?_
    refine ev_icmp (t := 122) i186_97 rfl (fun c_1 => ?_) (fun c_1 => ?_)
    · replace hf := x_pos (show x3 ≤ x6 from c_1) hf
      exact j186_122_ok hd hf
    · replace hf := x_neg (show ¬ x3 ≤ x6 from c_1) hf
      refine ev_do i186_100 rfl ?_
      refine ev_if (t := 122) i186_102 rfl (fun c_2 => ?_) (fun c_2 => ?_)
      · replace hf := x_pos (show x5 = 0 from c_2) hf
        exact j186_122_ok hd hf
      · replace hf := x_neg (show ¬ x5 = 0 from c_2) hf
        refine sh_aload (i' := 0) (n := 1) i186_105 (Or.inr ⟨rfl, by decide⟩) rfl ?_
        refine ev_do i186_106 rfl ?_
        obtain ⟨_, eu_5, hf⟩ := x_bind hf
        obtain ⟨r_3, er_3, hf⟩ := x_bind hf
        refine sh_inv (as := [.int x6]) (z := (some (.int r_3.1), r_3.2)) i186_108 v186_227 (Or.inl ⟨by decide, rfl⟩) m167 rfl (Nat.le_of_ble_eq_true rfl) eu_5 (fn167_call (by omega) er_3) ?_
        obtain ⟨r_4, er_4, hf⟩ := x_bind hf
        refine ev_sta (as := [.int r_3.1]) (z := (some (.int r_4.1), r_4.2)) i186_111 v186_171 (Or.inl rfl) m147 rfl (Nat.le_of_ble_eq_true rfl) (fn147_call (by omega) er_4) ?_
        refine sh_istore (i' := 5) (n := 2) i186_114 (Or.inl rfl) (xokst_of (Nat.le_of_ble_eq_true rfl) rfl) ?_
        refine sh_inc (i' := 6) i186_116 rfl (xokst_of (Nat.le_of_ble_eq_true rfl) rfl) rfl ?_
        refine sh_goto (t := 94) i186_119 rfl ?_
        exact ih hf
def j186_81  (o0 : Option Nat) (x1 : Int32) (x2 : Int32) (x3 : Int32) (x4 : Int32) (s0 : Int32) (h : xH) : Option (Int32 × xH) := (if s0 &&& 1 = s0 then some (s0, h) else none)
theorem j186_81_ok {xs : List Int32} {d : Nat} (hd : 5 ≤ d) {u5 : Value} {u6 : Value} {o0 : Option Nat} {x1 : Int32} {x2 : Int32} {x3 : Int32} {x4 : Int32} {s0 : Int32} {h : xH} {r : (Int32 × xH)} (hu5 : u5.category = 1) (hu6 : u6.category = 1) (hf : j186_81 o0 x1 x2 x3 x4 s0 h = some r) : xEv (xTa xs) d 186 (81, [xrv o0, .int x1, .int x2, .int x3, .int x4, u5, u6], [.int s0], h) (some (.int r.1), r.2) := by
  unfold j186_81 at hf
  by_cases c_1 : s0 &&& 1 = s0
  · replace hf := x_pos c_1 hf
    obtain rfl := Option.some.inj hf
    exact sh_iret i186_81 m186 rfl (congrArg Value.int c_1)
  · replace hf := x_neg c_1 hf
    cases hf
def j186_80  (o0 : Option Nat) (x1 : Int32) (x2 : Int32) (x3 : Int32) (x4 : Int32) (h : xH) : Option (Int32 × xH) := j186_81 o0 x1 x2 x3 x4 0 h
theorem j186_80_ok {xs : List Int32} {d : Nat} (hd : 5 ≤ d) {u5 : Value} {u6 : Value} {o0 : Option Nat} {x1 : Int32} {x2 : Int32} {x3 : Int32} {x4 : Int32} {h : xH} {r : (Int32 × xH)} (hu5 : u5.category = 1) (hu6 : u6.category = 1) (hf : j186_80 o0 x1 x2 x3 x4 h = some r) : xEv (xTa xs) d 186 (80, [xrv o0, .int x1, .int x2, .int x3, .int x4, u5, u6], [], h) (some (.int r.1), r.2) := by
  unfold j186_80 at hf
  refine ev_do i186_80 rfl ?_
  exact j186_81_ok hd hu5 hu6 hf
def j186_42  (o0 : Option Nat) (x1 : Int32) (x2 : Int32) (x3 : Int32) (x4 : Int32) (s0 : Int32) (h : xH) : Option (Int32 × xH) := (if s0 &&& 1 = s0 then some (s0, h) else none)
theorem j186_42_ok {xs : List Int32} {d : Nat} (hd : 5 ≤ d) {u5 : Value} {u6 : Value} {o0 : Option Nat} {x1 : Int32} {x2 : Int32} {x3 : Int32} {x4 : Int32} {s0 : Int32} {h : xH} {r : (Int32 × xH)} (hu5 : u5.category = 1) (hu6 : u6.category = 1) (hf : j186_42 o0 x1 x2 x3 x4 s0 h = some r) : xEv (xTa xs) d 186 (42, [xrv o0, .int x1, .int x2, .int x3, .int x4, u5, u6], [.int s0], h) (some (.int r.1), r.2) := by
  unfold j186_42 at hf
  by_cases c_1 : s0 &&& 1 = s0
  · replace hf := x_pos c_1 hf
    obtain rfl := Option.some.inj hf
    exact sh_iret i186_42 m186 rfl (congrArg Value.int c_1)
  · replace hf := x_neg c_1 hf
    cases hf
def j186_41  (o0 : Option Nat) (x1 : Int32) (x2 : Int32) (x3 : Int32) (x4 : Int32) (h : xH) : Option (Int32 × xH) := j186_42 o0 x1 x2 x3 x4 0 h
theorem j186_41_ok {xs : List Int32} {d : Nat} (hd : 5 ≤ d) {u5 : Value} {u6 : Value} {o0 : Option Nat} {x1 : Int32} {x2 : Int32} {x3 : Int32} {x4 : Int32} {h : xH} {r : (Int32 × xH)} (hu5 : u5.category = 1) (hu6 : u6.category = 1) (hf : j186_41 o0 x1 x2 x3 x4 h = some r) : xEv (xTa xs) d 186 (41, [xrv o0, .int x1, .int x2, .int x3, .int x4, u5, u6], [], h) (some (.int r.1), r.2) := by
  unfold j186_41 at hf
  refine ev_do i186_41 rfl ?_
  exact j186_42_ok hd hu5 hu6 hf
def fn186 (o0 : Option Nat) (x1 : Int32) (x2 : Int32) (x3 : Int32) (h : xH) : Option (Int32 × xH) := (if x1 = 2 then (if (x3 - x2) ≤ 0 then j186_41 o0 x1 x2 x3 (x3 - x2) h else (xgR h o0 11 12).bind fun a_3 => (fn162 a_3 (24000 + x2) (24000 + x3) h).bind fun r_4 => (if r_4.1 = (x3 - x2) then j186_42 o0 x1 x2 x3 (x3 - x2) 1 r_4.2 else j186_41 o0 x1 x2 x3 (x3 - x2) r_4.2)) else (if x1 = 6 then (fn141 (x3 - x2) 1 4 h).bind fun r_7 => l186_94 xFuel o0 x1 x2 x3 (x3 - x2) r_7.1 x2 r_7.2 else (if (x3 - x2) ≤ 0 then j186_80 o0 x1 x2 x3 (x3 - x2) h else (xgR h o0 11 12).bind fun a_9 => (fn163 a_9 (24000 + x2) (24000 + x3) h).bind fun r_10 => (if r_10.1 = (x3 - x2) then j186_81 o0 x1 x2 x3 (x3 - x2) 1 r_10.2 else j186_80 o0 x1 x2 x3 (x3 - x2) r_10.2))))
theorem fn186_call {xs : List Int32} {d : Nat} (hd : 6 ≤ d) {o0 : Option Nat} {x1 : Int32} {x2 : Int32} {x3 : Int32} {h : xH} {r : (Int32 × xH)} (hf : fn186 o0 x1 x2 x3 h = some r) : xCall (xTa xs) d 186 [xrv o0, .int x1, .int x2, .int x3] h (some (.int r.1), r.2) := by
  obtain ⟨d, rfl⟩ : ∃ d2, d = d2 + 1 := ⟨d - 1, by omega⟩
  replace hd : 5 ≤ d := by omega
  refine call_of2 (fl := [xrv o0, .int x1, .int x2, .int x3]) (Ls := [xrv o0, .int x1, .int x2, .int x3, .float 0, .float 0, .float 0]) m186 (by simp [xfl, xrv_cat, xc_i, xc_j, xc_a, xc_f]) (Nat.le_of_ble_eq_true rfl) rfl ?_
  unfold fn186 at hf
  refine ev_do i186_0 rfl ?_
  refine ev_do i186_1 rfl ?_
  refine ev_do i186_2 rfl ?_
  refine sh_istore (i' := 4) (n := 2) i186_3 (Or.inl rfl) (xokst_of (Nat.le_of_ble_eq_true rfl) rfl) ?_
  refine ev_do i186_5 rfl ?_
  refine ev_do i186_6 rfl ?_
  refine ev_icmp (t := 43) i186_7 rfl (fun c_1 => ?_) (fun c_1 => ?_)
  · replace hf := x_neg (show ¬ x1 = 2 from c_1) hf
    refine ev_do i186_43 rfl ?_
    refine ev_do i186_44 rfl ?_
    refine ev_icmp (t := 82) i186_46 rfl (fun c_6 => ?_) (fun c_6 => ?_)
    · replace hf := x_pos (show x1 = 6 from c_6) hf
      refine ev_do i186_82 rfl ?_
      refine ev_do i186_84 rfl ?_
      refine ev_do i186_85 rfl ?_
      obtain ⟨r_7, er_7, hf⟩ := x_bind hf
      refine ev_sta (as := [.int 4, .int 1, .int (x3 - x2)]) (z := (some (.int r_7.1), r_7.2)) i186_86 v186_154 (Or.inl rfl) m141 rfl (Nat.le_of_ble_eq_true rfl) (fn141_call (by omega) er_7) ?_
      refine sh_istore (i' := 5) (n := 2) i186_89 (Or.inl rfl) (xokst_of (Nat.le_of_ble_eq_true rfl) rfl) ?_
      refine ev_do i186_91 rfl ?_
      refine sh_istore (i' := 6) (n := 2) i186_92 (Or.inl rfl) (xokst_of (Nat.le_of_ble_eq_true rfl) rfl) ?_
      exact l186_94_ok hd xFuel hf
    · replace hf := x_neg (show ¬ x1 = 6 from c_6) hf
      refine ev_do i186_49 rfl ?_
      refine ev_if (t := 80) i186_51 rfl (fun c_8 => ?_) (fun c_8 => ?_)
      · replace hf := x_pos (show (x3 - x2) ≤ 0 from c_8) hf
        exact j186_80_ok hd rfl rfl hf
      · replace hf := x_neg (show ¬ (x3 - x2) ≤ 0 from c_8) hf
        refine sh_aload (i' := 0) (n := 1) i186_54 (Or.inr ⟨rfl, by decide⟩) rfl ?_
        obtain ⟨a_9, ea_9, hf⟩ := x_bind hf
        refine sh_getR i186_55 f186_41 ea_9 ?_
        refine ev_do i186_58 rfl ?_
        refine ev_do i186_61 rfl ?_
        refine ev_do i186_62 rfl ?_
        refine ev_do i186_63 rfl ?_
        refine ev_do i186_66 rfl ?_
        refine ev_do i186_67 rfl ?_
        obtain ⟨r_10, er_10, hf⟩ := x_bind hf
        refine ev_sta (as := [.int (24000 + x3), .int (24000 + x2), xrv a_9]) (z := (some (.int r_10.1), r_10.2)) i186_68 v186_212 (Or.inl rfl) m163 rfl (Nat.le_of_ble_eq_true rfl) (fn163_call (by omega) er_10) ?_
        refine ev_do i186_71 rfl ?_
        refine ev_icmp (t := 80) i186_73 rfl (fun c_11 => ?_) (fun c_11 => ?_)
        · replace hf := x_neg (show ¬ r_10.1 = (x3 - x2) from c_11) hf
          exact j186_80_ok hd rfl rfl hf
        · replace hf := x_pos (show r_10.1 = (x3 - x2) from Decidable.byContradiction (fun h9 => c_11 h9)) hf
          refine ev_do i186_76 rfl ?_
          refine sh_goto (t := 81) i186_77 rfl ?_
          exact j186_81_ok hd rfl rfl hf
  · replace hf := x_pos (show x1 = 2 from Decidable.byContradiction (fun h9 => c_1 h9)) hf
    refine ev_do i186_10 rfl ?_
    refine ev_if (t := 41) i186_12 rfl (fun c_2 => ?_) (fun c_2 => ?_)
    · replace hf := x_pos (show (x3 - x2) ≤ 0 from c_2) hf
      exact j186_41_ok hd rfl rfl hf
    · replace hf := x_neg (show ¬ (x3 - x2) ≤ 0 from c_2) hf
      refine sh_aload (i' := 0) (n := 1) i186_15 (Or.inr ⟨rfl, by decide⟩) rfl ?_
      obtain ⟨a_3, ea_3, hf⟩ := x_bind hf
      refine sh_getR i186_16 f186_41 ea_3 ?_
      refine ev_do i186_19 rfl ?_
      refine ev_do i186_22 rfl ?_
      refine ev_do i186_23 rfl ?_
      refine ev_do i186_24 rfl ?_
      refine ev_do i186_27 rfl ?_
      refine ev_do i186_28 rfl ?_
      obtain ⟨r_4, er_4, hf⟩ := x_bind hf
      refine ev_sta (as := [.int (24000 + x3), .int (24000 + x2), xrv a_3]) (z := (some (.int r_4.1), r_4.2)) i186_29 v186_205 (Or.inl rfl) m162 rfl (Nat.le_of_ble_eq_true rfl) (fn162_call (by omega) er_4) ?_
      refine ev_do i186_32 rfl ?_
      refine ev_icmp (t := 41) i186_34 rfl (fun c_5 => ?_) (fun c_5 => ?_)
      · replace hf := x_neg (show ¬ r_4.1 = (x3 - x2) from c_5) hf
        exact j186_41_ok hd rfl rfl hf
      · replace hf := x_pos (show r_4.1 = (x3 - x2) from Decidable.byContradiction (fun h9 => c_5 h9)) hf
        refine ev_do i186_37 rfl ?_
        refine sh_goto (t := 42) i186_38 rfl ?_
        exact j186_42_ok hd rfl rfl hf
end
section
def j187_214  (o0 : Option Nat) (x1 : Int32) (x2 : Int32) (x3 : Int32) (x4 : Int32) (h : xH) : Option xH := some h
theorem j187_214_ok {xs : List Int32} {d : Nat} (hd : 8 ≤ d) {u5 : Value} {o0 : Option Nat} {x1 : Int32} {x2 : Int32} {x3 : Int32} {x4 : Int32} {h : xH} {r : xH} (hu5 : u5.category = 1) (hf : j187_214 o0 x1 x2 x3 x4 h = some r) : xEv (xTa xs) d 187 (214, [xrv o0, .int x1, .int x2, .int x3, .int x4, u5], [], h) (none, r) := by
  unfold j187_214 at hf
  obtain rfl := Option.some.inj hf
  exact sh_vret i187_214 m187 rfl
def j187_206  (o0 : Option Nat) (x1 : Int32) (x2 : Int32) (x3 : Int32) (x4 : Int32) (x5 : Int32) (h : xH) : Option xH := j187_214 o0 x1 x2 x3 x4 h
theorem j187_206_ok {xs : List Int32} {d : Nat} (hd : 8 ≤ d) {o0 : Option Nat} {x1 : Int32} {x2 : Int32} {x3 : Int32} {x4 : Int32} {x5 : Int32} {h : xH} {r : xH} (hf : j187_206 o0 x1 x2 x3 x4 x5 h = some r) : xEv (xTa xs) d 187 (206, [xrv o0, .int x1, .int x2, .int x3, .int x4, .int x5], [], h) (none, r) := by
  unfold j187_206 at hf
  refine sh_goto (t := 214) i187_206 rfl ?_
  exact j187_214_ok hd rfl hf
def j187_183  (o0 : Option Nat) (x1 : Int32) (x2 : Int32) (x3 : Int32) (x4 : Int32) (h : xH) : Option xH := (xcv h o0 11).bind fun _ => (fn169 o0 x2 h).bind fun r_1 => (xgI r_1.2 o0 11 37).bind fun v_2 => (if v_2 ≤ r_1.1 then j187_206 o0 x1 x2 x3 x4 r_1.1 r_1.2 else (xcv r_1.2 o0 11).bind fun _ => (fn166 o0 2 r_1.1 r_1.2).bind fun h_4 => j187_206 o0 x1 x2 x3 x4 r_1.1 h_4)
theorem j187_183_ok {xs : List Int32} {d : Nat} (hd : 8 ≤ d) {u5 : Value} {o0 : Option Nat} {x1 : Int32} {x2 : Int32} {x3 : Int32} {x4 : Int32} {h : xH} {r : xH} (hu5 : u5.category = 1) (hf : j187_183 o0 x1 x2 x3 x4 h = some r) : xEv (xTa xs) d 187 (183, [xrv o0, .int x1, .int x2, .int x3, .int x4, u5], [], h) (none, r) := by
  unfold j187_183 at hf
  refine sh_aload (i' := 0) (n := 1) i187_183 (Or.inr ⟨rfl, by decide⟩) rfl ?_
  refine ev_do i187_184 rfl ?_
  obtain ⟨_, eu_6, hf⟩ := x_bind hf
  obtain ⟨r_1, er_1, hf⟩ := x_bind hf
  refine sh_inv (as := [.int x2]) (z := (some (.int r_1.1), r_1.2)) i187_185 v187_255 (Or.inl ⟨by decide, rfl⟩) m169 rfl (Nat.le_of_ble_eq_true rfl) eu_6 (fn169_call (by omega) er_1) ?_
  refine sh_istore (i' := 5) (n := 2) i187_188 (Or.inl rfl) (xokst_of (Nat.le_of_ble_eq_true rfl) rfl) ?_
  refine ev_do i187_190 rfl ?_
  refine sh_aload (i' := 0) (n := 1) i187_192 (Or.inr ⟨rfl, by decide⟩) rfl ?_
  obtain ⟨v_2, ev_2, hf⟩ := x_bind hf
  refine sh_getI i187_193 f187_224 ev_2 ?_
  refine ev_icmp (t := 206) i187_196 rfl (fun c_3 => ?_) (fun c_3 => ?_)
  · replace hf := x_pos (show v_2 ≤ r_1.1 from c_3) hf
    exact j187_206_ok hd hf
  · replace hf := x_neg (show ¬ v_2 ≤ r_1.1 from c_3) hf
    refine sh_aload (i' := 0) (n := 1) i187_199 (Or.inr ⟨rfl, by decide⟩) rfl ?_
    refine ev_do i187_200 rfl ?_
    refine ev_do i187_201 rfl ?_
    obtain ⟨_, eu_5, hf⟩ := x_bind hf
    obtain ⟨h_4, eh_4, hf⟩ := x_bind hf
    refine sh_inv (as := [.int r_1.1, .int 2]) (z := (none, h_4)) i187_203 v187_267 (Or.inl ⟨by decide, rfl⟩) m166 rfl (Nat.le_of_ble_eq_true rfl) eu_5 (fn166_call (by omega) eh_4) ?_
    exact j187_206_ok hd hf
def j187_136  (o0 : Option Nat) (x1 : Int32) (x2 : Int32) (x3 : Int32) (x4 : Int32) (h : xH) : Option xH := (xpF h o0 11 35 .boolean (.int 1)).bind fun h_1 => (xcv h_1 o0 11).bind fun _ => (fn173 o0 x3 0 x1 h_1).bind fun h_2 => (xgR h_2 o0 11 21).bind fun a_3 => (xcv h_2 o0 11).bind fun _ => (fn174 o0 h_2).bind fun r_4 => (xaS r_4.2 13 (fun x => x) a_3 r_4.1 x4).bind fun h_5 => (xgR h_5 o0 11 22).bind fun a_6 => (xcv h_5 o0 11).bind fun _ => (fn174 o0 h_5).bind fun r_7 => (xaS r_7.2 13 (fun x => x) a_6 r_7.1 (x2 - x4)).bind fun h_8 => (if x3 = 5 then j187_183 o0 x1 x2 x3 x4 h_8 else (if x3 = 6 then j187_183 o0 x1 x2 x3 x4 h_8 else (xcv h_8 o0 11).bind fun _ => (fn175 o0 x2 h_8).bind fun h_11 => j187_214 o0 x1 x2 x3 x4 h_11))
theorem j187_136_ok {xs : List Int32} {d : Nat} (hd : 8 ≤ d) {u5 : Value} {o0 : Option Nat} {x1 : Int32} {x2 : Int32} {x3 : Int32} {x4 : Int32} {h : xH} {r : xH} (hu5 : u5.category = 1) (hf : j187_136 o0 x1 x2 x3 x4 h = some r) : xEv (xTa xs) d 187 (136, [xrv o0, .int x1, .int x2, .int x3, .int x4, u5], [], h) (none, r) := by
  unfold j187_136 at hf
  refine sh_aload (i' := 0) (n := 1) i187_136 (Or.inr ⟨rfl, by decide⟩) rfl ?_
  refine ev_do i187_137 rfl ?_
  obtain ⟨h_1, eh_1, hf⟩ := x_bind hf
  refine sh_put i187_138 f187_278 (by decide) rfl eh_1 ?_
  refine sh_aload (i' := 0) (n := 1) i187_141 (Or.inr ⟨rfl, by decide⟩) rfl ?_
  refine ev_do i187_142 rfl ?_
  refine ev_do i187_143 rfl ?_
  refine ev_do i187_144 rfl ?_
  obtain ⟨_, eu_15, hf⟩ := x_bind hf
  obtain ⟨h_2, eh_2, hf⟩ := x_bind hf
  refine sh_inv (as := [.int x1, .int 0, .int x3]) (z := (none, h_2)) i187_145 v187_301 (Or.inl ⟨by decide, rfl⟩) m173 rfl (Nat.le_of_ble_eq_true rfl) eu_15 (fn173_call (by omega) eh_2) ?_
  refine sh_aload (i' := 0) (n := 1) i187_148 (Or.inr ⟨rfl, by decide⟩) rfl ?_
  obtain ⟨a_3, ea_3, hf⟩ := x_bind hf
  refine sh_getR i187_149 f187_68 ea_3 ?_
  refine sh_aload (i' := 0) (n := 1) i187_152 (Or.inr ⟨rfl, by decide⟩) rfl ?_
  obtain ⟨_, eu_14, hf⟩ := x_bind hf
  obtain ⟨r_4, er_4, hf⟩ := x_bind hf
  refine sh_inv (as := []) (z := (some (.int r_4.1), r_4.2)) i187_153 v187_274 (Or.inl ⟨by decide, rfl⟩) m174 rfl (by simp [xcat, xrv_cat, xc_i, xc_j, xc_a, xc_f]) eu_14 (fn174_call (by omega) er_4) ?_
  refine ev_do i187_156 rfl ?_
  obtain ⟨h_5, eh_5, hf⟩ := x_bind hf
  refine sh_ast (tg := 13) i187_158 (Or.inl ⟨rfl, rfl, rfl⟩) eh_5 ?_
  refine sh_aload (i' := 0) (n := 1) i187_159 (Or.inr ⟨rfl, by decide⟩) rfl ?_
  obtain ⟨a_6, ea_6, hf⟩ := x_bind hf
  refine sh_getR i187_160 f187_71 ea_6 ?_
  refine sh_aload (i' := 0) (n := 1) i187_163 (Or.inr ⟨rfl, by decide⟩) rfl ?_
  obtain ⟨_, eu_13, hf⟩ := x_bind hf
  obtain ⟨r_7, er_7, hf⟩ := x_bind hf
  refine sh_inv (as := []) (z := (some (.int r_7.1), r_7.2)) i187_164 v187_274 (Or.inl ⟨by decide, rfl⟩) m174 rfl (by simp [xcat, xrv_cat, xc_i, xc_j, xc_a, xc_f]) eu_13 (fn174_call (by omega) er_7) ?_
  refine ev_do i187_167 rfl ?_
  refine ev_do i187_168 rfl ?_
  refine ev_do i187_170 rfl ?_
  obtain ⟨h_8, eh_8, hf⟩ := x_bind hf
  refine sh_ast (tg := 13) i187_171 (Or.inl ⟨rfl, rfl, rfl⟩) eh_8 ?_
  refine ev_do i187_172 rfl ?_
  refine ev_do i187_173 rfl ?_
  refine ev_icmp (t := 183) i187_174 rfl (fun c_9 => ?_) (fun c_9 => ?_)
  · replace hf := x_pos (show x3 = 5 from c_9) hf
    exact j187_183_ok hd hu5 hf
  · replace hf := x_neg (show ¬ x3 = 5 from c_9) hf
    refine ev_do i187_177 rfl ?_
    refine ev_do i187_178 rfl ?_
    refine ev_icmp (t := 209) i187_180 rfl (fun c_10 => ?_) (fun c_10 => ?_)
    · replace hf := x_neg (show ¬ x3 = 6 from c_10) hf
      refine sh_aload (i' := 0) (n := 1) i187_209 (Or.inr ⟨rfl, by decide⟩) rfl ?_
      refine ev_do i187_210 rfl ?_
      obtain ⟨_, eu_12, hf⟩ := x_bind hf
      obtain ⟨h_11, eh_11, hf⟩ := x_bind hf
      refine sh_inv (as := [.int x2]) (z := (none, h_11)) i187_211 v187_305 (Or.inl ⟨by decide, rfl⟩) m175 rfl (Nat.le_of_ble_eq_true rfl) eu_12 (fn175_call (by omega) eh_11) ?_
      exact j187_214_ok hd hu5 hf
    · replace hf := x_pos (show x3 = 6 from Decidable.byContradiction (fun h9 => c_10 h9)) hf
      exact j187_183_ok hd hu5 hf
def j187_70  (o0 : Option Nat) (x1 : Int32) (x2 : Int32) (x3 : Int32) (h : xH) : Option xH := (if x3 = 3 then j187_136 o0 x1 x2 x3 x2 h else (xcv h o0 11).bind fun _ => (fn169 o0 x2 h).bind fun r_2 => (xcv r_2.2 o0 11).bind fun _ => (fn170 o0 r_2.1 r_2.2).bind fun r_3 => (xcv r_3.2 o0 11).bind fun _ => (fn186 o0 x3 r_2.1 r_3.1 r_3.2).bind fun r_4 => (if r_4.1 = 0 then (xcv r_4.2 o0 11).bind fun _ => (fn166 o0 2 r_2.1 r_4.2).bind fun h_6 => some h_6 else (if x3 = 2 then (xcv r_4.2 o0 11).bind fun _ => (fn185 o0 r_2.1 (r_3.1 - r_2.1) r_4.2).bind fun r_9 => (if r_9.1 = 0 then j187_136 o0 x1 r_3.1 x3 r_2.1 r_9.2 else (xcv r_9.2 o0 11).bind fun _ => (fn166 o0 5 x1 r_9.2).bind fun h_11 => some h_11) else j187_136 o0 x1 r_3.1 x3 r_2.1 r_4.2)))
theorem j187_70_ok {xs : List Int32} {d : Nat} (hd : 8 ≤ d) {u4 : Value} {u5 : Value} {o0 : Option Nat} {x1 : Int32} {x2 : Int32} {x3 : Int32} {h : xH} {r : xH} (hu4 : u4.category = 1) (hu5 : u5.category = 1) (hf : j187_70 o0 x1 x2 x3 h = some r) : xEv (xTa xs) d 187 (70, [xrv o0, .int x1, .int x2, .int x3, u4, u5], [], h) (none, r) := by
  unfold j187_70 at hf
  refine ev_do i187_70 rfl ?_
  refine sh_istore (i' := 4) (n := 2) i187_71 (Or.inl rfl) (xokst_of (Nat.le_of_ble_eq_true rfl) rfl) ?_
  refine ev_do i187_73 rfl ?_
  refine ev_do i187_74 rfl ?_
  refine ev_icmp (t := 136) i187_75 rfl (fun c_1 => ?_) (fun c_1 => ?_)
  · replace hf := x_pos (show x3 = 3 from c_1) hf
    exact j187_136_ok hd hu5 hf
  · replace hf := x_neg (show ¬ x3 = 3 from c_1) hf
    refine sh_aload (i' := 0) (n := 1) i187_78 (Or.inr ⟨rfl, by decide⟩) rfl ?_
    refine ev_do i187_79 rfl ?_
    obtain ⟨_, eu_16, hf⟩ := x_bind hf
    obtain ⟨r_2, er_2, hf⟩ := x_bind hf
    refine sh_inv (as := [.int x2]) (z := (some (.int r_2.1), r_2.2)) i187_80 v187_255 (Or.inl ⟨by decide, rfl⟩) m169 rfl (Nat.le_of_ble_eq_true rfl) eu_16 (fn169_call (by omega) er_2) ?_
    refine sh_istore (i' := 4) (n := 2) i187_83 (Or.inl rfl) (xokst_of (Nat.le_of_ble_eq_true rfl) rfl) ?_
    refine sh_aload (i' := 0) (n := 1) i187_85 (Or.inr ⟨rfl, by decide⟩) rfl ?_
    refine ev_do i187_86 rfl ?_
    obtain ⟨_, eu_15, hf⟩ := x_bind hf
    obtain ⟨r_3, er_3, hf⟩ := x_bind hf
    refine sh_inv (as := [.int r_2.1]) (z := (some (.int r_3.1), r_3.2)) i187_88 v187_329 (Or.inl ⟨by decide, rfl⟩) m170 rfl (Nat.le_of_ble_eq_true rfl) eu_15 (fn170_call (by omega) er_3) ?_
    refine sh_istore (i' := 2) (n := 1) i187_91 (Or.inr ⟨rfl, by decide⟩) (xokst_of (Nat.le_of_ble_eq_true rfl) rfl) ?_
    refine sh_aload (i' := 0) (n := 1) i187_92 (Or.inr ⟨rfl, by decide⟩) rfl ?_
    refine ev_do i187_93 rfl ?_
    refine ev_do i187_94 rfl ?_
    refine ev_do i187_96 rfl ?_
    obtain ⟨_, eu_14, hf⟩ := x_bind hf
    obtain ⟨r_4, er_4, hf⟩ := x_bind hf
    refine sh_inv (as := [.int r_3.1, .int r_2.1, .int x3]) (z := (some (.int r_4.1), r_4.2)) i187_97 v187_338 (Or.inl ⟨by decide, rfl⟩) m186 rfl (Nat.le_of_ble_eq_true rfl) eu_14 (fn186_call (by omega) er_4) ?_
    refine ev_if (t := 111) i187_100 rfl (fun c_5 => ?_) (fun c_5 => ?_)
    · replace hf := x_neg (show ¬ r_4.1 = 0 from c_5) hf
      refine ev_do i187_111 rfl ?_
      refine ev_do i187_112 rfl ?_
      refine ev_icmp (t := 136) i187_113 rfl (fun c_8 => ?_) (fun c_8 => ?_)
      · replace hf := x_neg (show ¬ x3 = 2 from c_8) hf
        exact j187_136_ok hd hu5 hf
      · replace hf := x_pos (show x3 = 2 from Decidable.byContradiction (fun h9 => c_8 h9)) hf
        refine sh_aload (i' := 0) (n := 1) i187_116 (Or.inr ⟨rfl, by decide⟩) rfl ?_
        refine ev_do i187_117 rfl ?_
        refine ev_do i187_119 rfl ?_
        refine ev_do i187_120 rfl ?_
        refine ev_do i187_122 rfl ?_
        obtain ⟨_, eu_13, hf⟩ := x_bind hf
        obtain ⟨r_9, er_9, hf⟩ := x_bind hf
        refine sh_inv (as := [.int (r_3.1 - r_2.1), .int r_2.1]) (z := (some (.int r_9.1), r_9.2)) i187_123 v187_341 (Or.inl ⟨by decide, rfl⟩) m185 rfl (Nat.le_of_ble_eq_true rfl) eu_13 (fn185_call (by omega) er_9) ?_
        refine ev_if (t := 136) i187_126 rfl (fun c_10 => ?_) (fun c_10 => ?_)
        · replace hf := x_pos (show r_9.1 = 0 from c_10) hf
          exact j187_136_ok hd hu5 hf
        · replace hf := x_neg (show ¬ r_9.1 = 0 from c_10) hf
          refine sh_aload (i' := 0) (n := 1) i187_129 (Or.inr ⟨rfl, by decide⟩) rfl ?_
          refine ev_do i187_130 rfl ?_
          refine ev_do i187_131 rfl ?_
          obtain ⟨_, eu_12, hf⟩ := x_bind hf
          obtain ⟨h_11, eh_11, hf⟩ := x_bind hf
          refine sh_inv (as := [.int x1, .int 5]) (z := (none, h_11)) i187_132 v187_267 (Or.inl ⟨by decide, rfl⟩) m166 rfl (Nat.le_of_ble_eq_true rfl) eu_12 (fn166_call (by omega) eh_11) ?_
          obtain rfl := Option.some.inj hf
          exact sh_vret i187_135 m187 rfl
    · replace hf := x_pos (show r_4.1 = 0 from Decidable.byContradiction (fun h9 => c_5 h9)) hf
      refine sh_aload (i' := 0) (n := 1) i187_103 (Or.inr ⟨rfl, by decide⟩) rfl ?_
      refine ev_do i187_104 rfl ?_
      refine ev_do i187_105 rfl ?_
      obtain ⟨_, eu_7, hf⟩ := x_bind hf
      obtain ⟨h_6, eh_6, hf⟩ := x_bind hf
      refine sh_inv (as := [.int r_2.1, .int 2]) (z := (none, h_6)) i187_107 v187_267 (Or.inl ⟨by decide, rfl⟩) m166 rfl (Nat.le_of_ble_eq_true rfl) eu_7 (fn166_call (by omega) eh_6) ?_
      obtain rfl := Option.some.inj hf
      exact sh_vret i187_110 m187 rfl
def j187_55  (o0 : Option Nat) (x1 : Int32) (x2 : Int32) (x3 : Int32) (h : xH) : Option xH := (xcv h o0 11).bind fun _ => (fn184 o0 x3 h).bind fun r_1 => (if r_1.1 = 0 then j187_70 o0 x1 x2 x3 r_1.2 else (xcv r_1.2 o0 11).bind fun _ => (fn166 o0 5 x1 r_1.2).bind fun h_3 => some h_3)
theorem j187_55_ok {xs : List Int32} {d : Nat} (hd : 8 ≤ d) {u4 : Value} {u5 : Value} {o0 : Option Nat} {x1 : Int32} {x2 : Int32} {x3 : Int32} {h : xH} {r : xH} (hu4 : u4.category = 1) (hu5 : u5.category = 1) (hf : j187_55 o0 x1 x2 x3 h = some r) : xEv (xTa xs) d 187 (55, [xrv o0, .int x1, .int x2, .int x3, u4, u5], [], h) (none, r) := by
  unfold j187_55 at hf
  refine sh_aload (i' := 0) (n := 1) i187_55 (Or.inr ⟨rfl, by decide⟩) rfl ?_
  refine ev_do i187_56 rfl ?_
  obtain ⟨_, eu_5, hf⟩ := x_bind hf
  obtain ⟨r_1, er_1, hf⟩ := x_bind hf
  refine sh_inv (as := [.int x3]) (z := (some (.int r_1.1), r_1.2)) i187_57 v187_335 (Or.inl ⟨by decide, rfl⟩) m184 rfl (Nat.le_of_ble_eq_true rfl) eu_5 (fn184_call (by omega) er_1) ?_
  refine ev_if (t := 70) i187_60 rfl (fun c_2 => ?_) (fun c_2 => ?_)
  · replace hf := x_pos (show r_1.1 = 0 from c_2) hf
    exact j187_70_ok hd hu4 hu5 hf
  · replace hf := x_neg (show ¬ r_1.1 = 0 from c_2) hf
    refine sh_aload (i' := 0) (n := 1) i187_63 (Or.inr ⟨rfl, by decide⟩) rfl ?_
    refine ev_do i187_64 rfl ?_
    refine ev_do i187_65 rfl ?_
    obtain ⟨_, eu_4, hf⟩ := x_bind hf
    obtain ⟨h_3, eh_3, hf⟩ := x_bind hf
    refine sh_inv (as := [.int x1, .int 5]) (z := (none, h_3)) i187_66 v187_267 (Or.inl ⟨by decide, rfl⟩) m166 rfl (Nat.le_of_ble_eq_true rfl) eu_4 (fn166_call (by omega) eh_3) ?_
    obtain rfl := Option.some.inj hf
    exact sh_vret i187_69 m187 rfl
def fn187 (o0 : Option Nat) (x1 : Int32) (h : xH) : Option xH := (xcv h o0 11).bind fun _ => (fn170 o0 x1 h).bind fun r_1 => (xcv r_1.2 o0 11).bind fun _ => (fn183 o0 x1 r_1.1 r_1.2).bind fun r_2 => (if r_2.1 = (-1) then (xcv r_2.2 o0 11).bind fun _ => (fn166 o0 2 x1 r_2.2).bind fun h_4 => some h_4 else (xgR r_2.2 o0 11 14).bind fun a_6 => (xaI r_2.2 13 a_6 40).bind fun v_7 => (if v_7 = 24 then (xcv r_2.2 o0 11).bind fun _ => (fn166 o0 4 x1 r_2.2).bind fun h_9 => some h_9 else (if r_2.1 = 3 then j187_55 o0 x1 r_1.1 r_2.1 r_2.2 else (if r_2.1 = 6 then j187_55 o0 x1 r_1.1 r_2.1 r_2.2 else j187_70 o0 x1 r_1.1 r_2.1 r_2.2))))
theorem fn187_call {xs : List Int32} {d : Nat} (hd : 9 ≤ d) {o0 : Option Nat} {x1 : Int32} {h : xH} {r : xH} (hf : fn187 o0 x1 h = some r) : xCall (xTa xs) d 187 [xrv o0, .int x1] h (none, r) := by
  obtain ⟨d, rfl⟩ : ∃ d2, d = d2 + 1 := ⟨d - 1, by omega⟩
  replace hd : 8 ≤ d := by omega
  refine call_of2 (fl := [xrv o0, .int x1]) (Ls := [xrv o0, .int x1, .float 0, .float 0, .float 0, .float 0]) m187 (by simp [xfl, xrv_cat, xc_i, xc_j, xc_a, xc_f]) (Nat.le_of_ble_eq_true rfl) rfl ?_
  unfold fn187 at hf
  refine sh_aload (i' := 0) (n := 1) i187_0 (Or.inr ⟨rfl, by decide⟩) rfl ?_
  refine ev_do i187_1 rfl ?_
  obtain ⟨_, eu_14, hf⟩ := x_bind hf
  obtain ⟨r_1, er_1, hf⟩ := x_bind hf
  refine sh_inv (as := [.int x1]) (z := (some (.int r_1.1), r_1.2)) i187_2 v187_329 (Or.inl ⟨by decide, rfl⟩) m170 rfl (Nat.le_of_ble_eq_true rfl) eu_14 (fn170_call (by omega) er_1) ?_
  refine sh_istore (i' := 2) (n := 1) i187_5 (Or.inr ⟨rfl, by decide⟩) (xokst_of (Nat.le_of_ble_eq_true rfl) rfl) ?_
  refine sh_aload (i' := 0) (n := 1) i187_6 (Or.inr ⟨rfl, by decide⟩) rfl ?_
  refine ev_do i187_7 rfl ?_
  refine ev_do i187_8 rfl ?_
  obtain ⟨_, eu_13, hf⟩ := x_bind hf
  obtain ⟨r_2, er_2, hf⟩ := x_bind hf
  refine sh_inv (as := [.int r_1.1, .int x1]) (z := (some (.int r_2.1), r_2.2)) i187_9 v187_332 (Or.inl ⟨by decide, rfl⟩) m183 rfl (Nat.le_of_ble_eq_true rfl) eu_13 (fn183_call (by omega) er_2) ?_
  refine sh_istore (i' := 3) (n := 1) i187_12 (Or.inr ⟨rfl, by decide⟩) (xokst_of (Nat.le_of_ble_eq_true rfl) rfl) ?_
  refine ev_do i187_13 rfl ?_
  refine ev_do i187_14 rfl ?_
  refine ev_icmp (t := 25) i187_15 rfl (fun c_3 => ?_) (fun c_3 => ?_)
  · replace hf := x_neg (show ¬ r_2.1 = (-1) from c_3) hf
    refine sh_aload (i' := 0) (n := 1) i187_25 (Or.inr ⟨rfl, by decide⟩) rfl ?_
    obtain ⟨a_6, ea_6, hf⟩ := x_bind hf
    refine sh_getR i187_26 f187_47 ea_6 ?_
    refine ev_do i187_29 rfl ?_
    obtain ⟨v_7, ev_7, hf⟩ := x_bind hf
    refine sh_aldI (tg := 13) i187_31 (Or.inl ⟨rfl, rfl⟩) ev_7 ?_
    refine ev_do i187_32 rfl ?_
    refine ev_icmp (t := 44) i187_34 rfl (fun c_8 => ?_) (fun c_8 => ?_)
    · replace hf := x_neg (show ¬ v_7 = 24 from c_8) hf
      refine ev_do i187_44 rfl ?_
      refine ev_do i187_45 rfl ?_
      refine ev_icmp (t := 55) i187_46 rfl (fun c_11 => ?_) (fun c_11 => ?_)
      · replace hf := x_pos (show r_2.1 = 3 from c_11) hf
        exact j187_55_ok hd rfl rfl hf
      · replace hf := x_neg (show ¬ r_2.1 = 3 from c_11) hf
        refine ev_do i187_49 rfl ?_
        refine ev_do i187_50 rfl ?_
        refine ev_icmp (t := 70) i187_52 rfl (fun c_12 => ?_) (fun c_12 => ?_)
        · replace hf := x_neg (show ¬ r_2.1 = 6 from c_12) hf
          exact j187_70_ok hd rfl rfl hf
        · replace hf := x_pos (show r_2.1 = 6 from Decidable.byContradiction (fun h9 => c_12 h9)) hf
          exact j187_55_ok hd rfl rfl hf
    · replace hf := x_pos (show v_7 = 24 from Decidable.byContradiction (fun h9 => c_8 h9)) hf
      refine sh_aload (i' := 0) (n := 1) i187_37 (Or.inr ⟨rfl, by decide⟩) rfl ?_
      refine ev_do i187_38 rfl ?_
      refine ev_do i187_39 rfl ?_
      obtain ⟨_, eu_10, hf⟩ := x_bind hf
      obtain ⟨h_9, eh_9, hf⟩ := x_bind hf
      refine sh_inv (as := [.int x1, .int 4]) (z := (none, h_9)) i187_40 v187_267 (Or.inl ⟨by decide, rfl⟩) m166 rfl (Nat.le_of_ble_eq_true rfl) eu_10 (fn166_call (by omega) eh_9) ?_
      obtain rfl := Option.some.inj hf
      exact sh_vret i187_43 m187 rfl
  · replace hf := x_pos (show r_2.1 = (-1) from Decidable.byContradiction (fun h9 => c_3 h9)) hf
    refine sh_aload (i' := 0) (n := 1) i187_18 (Or.inr ⟨rfl, by decide⟩) rfl ?_
    refine ev_do i187_19 rfl ?_
    refine ev_do i187_20 rfl ?_
    obtain ⟨_, eu_5, hf⟩ := x_bind hf
    obtain ⟨h_4, eh_4, hf⟩ := x_bind hf
    refine sh_inv (as := [.int x1, .int 2]) (z := (none, h_4)) i187_21 v187_267 (Or.inl ⟨by decide, rfl⟩) m166 rfl (Nat.le_of_ble_eq_true rfl) eu_5 (fn166_call (by omega) eh_4) ?_
    obtain rfl := Option.some.inj hf
    exact sh_vret i187_24 m187 rfl
end
section
def j177_198  (o0 : Option Nat) (x1 : Int32) (x2 : Int32) (h : xH) : Option xH := some h
theorem j177_198_ok {xs : List Int32} {d : Nat} (hd : 9 ≤ d) {u3 : Value} {o0 : Option Nat} {x1 : Int32} {x2 : Int32} {h : xH} {r : xH} (hu3 : u3.category = 1) (hf : j177_198 o0 x1 x2 h = some r) : xEv (xTa xs) d 177 (198, [xrv o0, .int x1, .int x2, u3], [], h) (none, r) := by
  unfold j177_198 at hf
  obtain rfl := Option.some.inj hf
  exact sh_vret i177_198 m177 rfl
def j177_185 (k84 : Option Nat → Int32 → Int32 → xH → Option xH) (o0 : Option Nat) (x1 : Int32) (x2 : Int32) (x3 : Int32) (s0 : Option Nat) (s1 : Int32) (h : xH) : Option xH := (xpF h s0 11 36 .boolean (.int s1)).bind fun h_1 => (xgI h_1 o0 11 37).bind fun v_2 => k84 o0 x1 (v_2 + 1) h_1
theorem j177_185_ok {xs : List Int32} {d : Nat} (hd : 9 ≤ d) {k84 : Option Nat → Int32 → Int32 → xH → Option xH} (hk84 : ∀ {u3 : Value} {o0 : Option Nat} {x1 : Int32} {x2 : Int32} {h : xH} {r : xH}, u3.category = 1 → k84 o0 x1 x2 h = some r → xEv (xTa xs) d 177 (84, [xrv o0, .int x1, .int x2, u3], [], h) (none, r)) {o0 : Option Nat} {x1 : Int32} {x2 : Int32} {x3 : Int32} {s0 : Option Nat} {s1 : Int32} {h : xH} {r : xH} (hf : j177_185 k84 o0 x1 x2 x3 s0 s1 h = some r) : xEv (xTa xs) d 177 (185, [xrv o0, .int x1, .int x2, .int x3], [.int s1, xrv s0], h) (none, r) := by
  unfold j177_185 at hf
  obtain ⟨h_1, eh_1, hf⟩ := x_bind hf
  refine sh_put i177_185 f177_282 (by decide) rfl eh_1 ?_
  refine sh_aload (i' := 0) (n := 1) i177_188 (Or.inr ⟨rfl, by decide⟩) rfl ?_
  obtain ⟨v_2, ev_2, hf⟩ := x_bind hf
  refine sh_getI i177_189 f177_224 ev_2 ?_
  refine ev_do i177_192 rfl ?_
  refine ev_do i177_193 rfl ?_
  refine sh_istore (i' := 2) (n := 1) i177_194 (Or.inr ⟨rfl, by decide⟩) (xokst_of (Nat.le_of_ble_eq_true rfl) rfl) ?_
  refine sh_goto (t := 84) i177_195 rfl ?_
  exact hk84 rfl hf
def j177_171 (k84 : Option Nat → Int32 → Int32 → xH → Option xH) (o0 : Option Nat) (x1 : Int32) (x2 : Int32) (x3 : Int32) (h : xH) : Option xH := (xgI h o0 11 37).bind fun v_1 => (if x3 = v_1 then j177_185 k84 o0 x1 x2 x3 o0 1 h else j177_185 k84 o0 x1 x2 x3 o0 0 h)
theorem j177_171_ok {xs : List Int32} {d : Nat} (hd : 9 ≤ d) {k84 : Option Nat → Int32 → Int32 → xH → Option xH} (hk84 : ∀ {u3 : Value} {o0 : Option Nat} {x1 : Int32} {x2 : Int32} {h : xH} {r : xH}, u3.category = 1 → k84 o0 x1 x2 h = some r → xEv (xTa xs) d 177 (84, [xrv o0, .int x1, .int x2, u3], [], h) (none, r)) {o0 : Option Nat} {x1 : Int32} {x2 : Int32} {x3 : Int32} {h : xH} {r : xH} (hf : j177_171 k84 o0 x1 x2 x3 h = some r) : xEv (xTa xs) d 177 (171, [xrv o0, .int x1, .int x2, .int x3], [], h) (none, r) := by
  unfold j177_171 at hf
  refine sh_aload (i' := 0) (n := 1) i177_171 (Or.inr ⟨rfl, by decide⟩) rfl ?_
  refine ev_do i177_172 rfl ?_
  refine sh_aload (i' := 0) (n := 1) i177_173 (Or.inr ⟨rfl, by decide⟩) rfl ?_
  obtain ⟨v_1, ev_1, hf⟩ := x_bind hf
  refine sh_getI i177_174 f177_224 ev_1 ?_
  refine ev_icmp (t := 184) i177_177 rfl (fun c_2 => ?_) (fun c_2 => ?_)
  · replace hf := x_neg (show ¬ x3 = v_1 from c_2) hf
    refine ev_do i177_184 rfl ?_
    exact j177_185_ok hd hk84 hf
  · replace hf := x_pos (show x3 = v_1 from Decidable.byContradiction (fun h9 => c_2 h9)) hf
    refine ev_do i177_180 rfl ?_
    refine sh_goto (t := 185) i177_181 rfl ?_
    exact j177_185_ok hd hk84 hf
def l177_84  : Nat → Option Nat → Int32 → Int32 → xH → Option xH
  | 0 => fun _ _ _ _ => none
  | n + 1 => fun o0 x1 x2 h => (if x1 ≤ x2 then j177_198 o0 x1 x2 h else (xgI h o0 11 31).bind fun v_2 => (if v_2 = 0 then (xcv h o0 11).bind fun _ => (fn178 o0 x2 x1 h).bind fun r_4 => (xpF r_4.2 o0 11 37 .int (.int r_4.1)).bind fun h_5 => (xcv h_5 o0 11).bind fun _ => (fn169 o0 x2 h_5).bind fun r_6 => (xgI r_6.2 o0 11 37).bind fun v_7 => (if r_6.1 = v_7 then (xpF r_6.2 o0 11 36 .boolean (.int 1)).bind fun h_9 => j177_171 (l177_84 n) o0 x1 x2 r_6.1 h_9 else (xcv r_6.2 o0 11).bind fun _ => (fn167 o0 r_6.1 r_6.2).bind fun r_10 => (if r_10.1 = 64 then (xcv r_10.2 o0 11).bind fun _ => (fn187 o0 r_6.1 r_10.2).bind fun h_12 => j177_171 (l177_84 n) o0 x1 x2 r_6.1 h_12 else (xcv r_10.2 o0 11).bind fun _ => (fn179 o0 r_6.1 r_10.2).bind fun r_14 => (if r_14.1 = 0 then (xcv r_14.2 o0 11).bind fun _ => (fn181 o0 r_6.1 x1 r_14.2).bind fun h_16 => j177_171 (l177_84 n) o0 x1 x2 r_6.1 h_16 else (xcv r_14.2 o0 11).bind fun _ => (fn180 o0 r_6.1 (r_6.1 - x2) r_14.2).bind fun h_18 => j177_171 (l177_84 n) o0 x1 x2 r_6.1 h_18))) else j177_198 o0 x1 x2 h))
theorem l177_84_ok {xs : List Int32} {d : Nat} (hd : 9 ≤ d) : ∀ (n : Nat) {u3 : Value} {o0 : Option Nat} {x1 : Int32} {x2 : Int32} {h : xH} {r : xH} (hu3 : u3.category = 1), l177_84 n o0 x1 x2 h = some r → xEv (xTa xs) d 177 (84, [xrv o0, .int x1, .int x2, u3], [], h) (none, r) := by
  intro n
  induction n with
  | zero => intros; rename_i hf; cases hf
  | succ n ih =>
    intro u3 o0 x1 x2 h r hu3 hf
    replace hf : ((if x1 ≤ x2 then j177_198 o0 x1 x2 h else (xgI h o0 11 31).bind fun v_2 => (if v_2 = 0 then (xcv h o0 11).bind fun _ => (fn178 o0 x2 x1 h).bind fun r_4 => (xpF r_4.2 o0 11 37 .int (.int r_4.1)).bind fun h_5 => (xcv h_5 o0 11).bind fun _ => (fn169 o0 x2 h_5).bind fun r_6 => (xgI r_6.2 o0 11 37).bind fun v_7 => (if r_6.1 = v_7 then (xpF r_6.2 o0 11 36 .boolean (.int 1)).bind fun h_9 => j177_171 (l177_84 n) o0 x1 x2 r_6.1 h_9 else (xcv r_6.2 o0 11).bind fun _ => (fn167 o0 r_6.1 r_6.2).bind fun r_10 => (if r_10.1 = 64 then (xcv r_10.2 o0 11).bind fun _ => (fn187 o0 r_6.1 r_10.2).bind fun h_12 => j177_171 (l177_84 n) o0 x1 x2 r_6.1 h_12 else (xcv r_10.2 o0 11).bind fun _ => (fn179 o0 r_6.1 r_10.2).bind fun r_14 => (if r_14.1 = 0 then (xcv r_14.2 o0 11).bind fun _ => (fn181 o0 r_6.1 x1 r_14.2).bind fun h_16 => j177_171 (l177_84 n) o0 x1 x2 r_6.1 h_16 else (xcv r_14.2 o0 11).bind fun _ => (fn180 o0 r_6.1 (r_6.1 - x2) r_14.2).bind fun h_18 => j177_171 (l177_84 n) o0 x1 x2 r_6.1 h_18))) else j177_198 o0 x1 x2 h))) = some r := hf
    refine ev_do i177_84 rfl ?_
    refine ev_do i177_85 rfl ?_
    refine ev_icmp (t := 198) i177_86 rfl (fun c_1 => ?_) (fun c_1 => ?_)
    · replace hf := x_pos (show x1 ≤ x2 from c_1) hf
      exact j177_198_ok hd hu3 hf
    · replace hf := x_neg (show ¬ x1 ≤ x2 from c_1) hf
      refine sh_aload (i' := 0) (n := 1) i177_89 (Or.inr ⟨rfl, by decide⟩) rfl ?_
      obtain ⟨v_2, ev_2, hf⟩ := x_bind hf
      refine sh_getI i177_90 f177_218 ev_2 ?_
      refine ev_if (t := 198) i177_93 rfl (fun c_3 => ?_) (fun c_3 => ?_)
      · replace hf := x_neg (show ¬ v_2 = 0 from c_3) hf
        exact j177_198_ok hd hu3 hf
      · replace hf := x_pos (show v_2 = 0 from Decidable.byContradiction (fun h9 => c_3 h9)) hf
        refine sh_aload (i' := 0) (n := 1) i177_96 (Or.inr ⟨rfl, by decide⟩) rfl ?_
        refine sh_aload (i' := 0) (n := 1) i177_97 (Or.inr ⟨rfl, by decide⟩) rfl ?_
        refine ev_do i177_98 rfl ?_
        refine ev_do i177_99 rfl ?_
        obtain ⟨_, eu_23, hf⟩ := x_bind hf
        obtain ⟨r_4, er_4, hf⟩ := x_bind hf
        refine sh_inv (as := [.int x1, .int x2]) (z := (some (.int r_4.1), r_4.2)) i177_100 v177_285 (Or.inl ⟨by decide, rfl⟩) m178 rfl (by simp [xcat, xrv_cat, xc_i, xc_j, xc_a, xc_f]) eu_23 (fn178_call (by omega) er_4) ?_
        obtain ⟨h_5, eh_5, hf⟩ := x_bind hf
        refine sh_put i177_103 f177_224 (by decide) rfl eh_5 ?_
        refine sh_aload (i' := 0) (n := 1) i177_106 (Or.inr ⟨rfl, by decide⟩) rfl ?_
        refine ev_do i177_107 rfl ?_
        obtain ⟨_, eu_22, hf⟩ := x_bind hf
        obtain ⟨r_6, er_6, hf⟩ := x_bind hf
        refine sh_inv (as := [.int x2]) (z := (some (.int r_6.1), r_6.2)) i177_108 v177_255 (Or.inl ⟨by decide, rfl⟩) m169 rfl (Nat.le_of_ble_eq_true rfl) eu_22 (fn169_call (by omega) er_6) ?_
        refine sh_istore (i' := 3) (n := 1) i177_111 (Or.inr ⟨rfl, by decide⟩) (xokst_of (Nat.le_of_ble_eq_true rfl) rfl) ?_
        refine ev_do i177_112 rfl ?_
        refine sh_aload (i' := 0) (n := 1) i177_113 (Or.inr ⟨rfl, by decide⟩) rfl ?_
        obtain ⟨v_7, ev_7, hf⟩ := x_bind hf
        refine sh_getI i177_114 f177_224 ev_7 ?_
        refine ev_icmp (t := 128) i177_117 rfl (fun c_8 => ?_) (fun c_8 => ?_)
        · replace hf := x_neg (show ¬ r_6.1 = v_7 from c_8) hf
          refine sh_aload (i' := 0) (n := 1) i177_128 (Or.inr ⟨rfl, by decide⟩) rfl ?_
          refine ev_do i177_129 rfl ?_
          obtain ⟨_, eu_21, hf⟩ := x_bind hf
          obtain ⟨r_10, er_10, hf⟩ := x_bind hf
          refine sh_inv (as := [.int r_6.1]) (z := (some (.int r_10.1), r_10.2)) i177_130 v177_227 (Or.inl ⟨by decide, rfl⟩) m167 rfl (Nat.le_of_ble_eq_true rfl) eu_21 (fn167_call (by omega) er_10) ?_
          refine ev_do i177_133 rfl ?_
          refine ev_icmp (t := 146) i177_135 rfl (fun c_11 => ?_) (fun c_11 => ?_)
          · replace hf := x_neg (show ¬ r_10.1 = 64 from c_11) hf
            refine sh_aload (i' := 0) (n := 1) i177_146 (Or.inr ⟨rfl, by decide⟩) rfl ?_
            refine ev_do i177_147 rfl ?_
            obtain ⟨_, eu_20, hf⟩ := x_bind hf
            obtain ⟨r_14, er_14, hf⟩ := x_bind hf
            refine sh_inv (as := [.int r_6.1]) (z := (some (.int r_14.1), r_14.2)) i177_148 v177_292 (Or.inl ⟨by decide, rfl⟩) m179 rfl (Nat.le_of_ble_eq_true rfl) eu_20 (fn179_call (by omega) er_14) ?_
            refine ev_if (t := 165) i177_151 rfl (fun c_15 => ?_) (fun c_15 => ?_)
            · replace hf := x_pos (show r_14.1 = 0 from c_15) hf
              refine sh_aload (i' := 0) (n := 1) i177_165 (Or.inr ⟨rfl, by decide⟩) rfl ?_
              refine ev_do i177_166 rfl ?_
              refine ev_do i177_167 rfl ?_
              obtain ⟨_, eu_17, hf⟩ := x_bind hf
              obtain ⟨h_16, eh_16, hf⟩ := x_bind hf
              refine sh_inv (as := [.int x1, .int r_6.1]) (z := (none, h_16)) i177_168 v177_298 (Or.inl ⟨by decide, rfl⟩) m181 rfl (Nat.le_of_ble_eq_true rfl) eu_17 (fn181_call (by omega) eh_16) ?_
              exact j177_171_ok hd ih hf
            · replace hf := x_neg (show ¬ r_14.1 = 0 from c_15) hf
              refine sh_aload (i' := 0) (n := 1) i177_154 (Or.inr ⟨rfl, by decide⟩) rfl ?_
              refine ev_do i177_155 rfl ?_
              refine ev_do i177_156 rfl ?_
              refine ev_do i177_157 rfl ?_
              refine ev_do i177_158 rfl ?_
              obtain ⟨_, eu_19, hf⟩ := x_bind hf
              obtain ⟨h_18, eh_18, hf⟩ := x_bind hf
              refine sh_inv (as := [.int (r_6.1 - x2), .int r_6.1]) (z := (none, h_18)) i177_159 v177_295 (Or.inl ⟨by decide, rfl⟩) m180 rfl (Nat.le_of_ble_eq_true rfl) eu_19 (fn180_call (by omega) eh_18) ?_
              refine sh_goto (t := 171) i177_162 rfl ?_
              exact j177_171_ok hd ih hf
          · replace hf := x_pos (show r_10.1 = 64 from Decidable.byContradiction (fun h9 => c_11 h9)) hf
            refine sh_aload (i' := 0) (n := 1) i177_138 (Or.inr ⟨rfl, by decide⟩) rfl ?_
            refine ev_do i177_139 rfl ?_
            obtain ⟨_, eu_13, hf⟩ := x_bind hf
            obtain ⟨h_12, eh_12, hf⟩ := x_bind hf
            refine sh_inv (as := [.int r_6.1]) (z := (none, h_12)) i177_140 v177_289 (Or.inl ⟨by decide, rfl⟩) m187 rfl (Nat.le_of_ble_eq_true rfl) eu_13 (fn187_call (by omega) eh_12) ?_
            refine sh_goto (t := 171) i177_143 rfl ?_
            exact j177_171_ok hd ih hf
        · replace hf := x_pos (show r_6.1 = v_7 from Decidable.byContradiction (fun h9 => c_8 h9)) hf
          refine sh_aload (i' := 0) (n := 1) i177_120 (Or.inr ⟨rfl, by decide⟩) rfl ?_
          refine ev_do i177_121 rfl ?_
          obtain ⟨h_9, eh_9, hf⟩ := x_bind hf
          refine sh_put i177_122 f177_282 (by decide) rfl eh_9 ?_
          refine sh_goto (t := 171) i177_125 rfl ?_
          exact j177_171_ok hd ih hf
def j177_82  (o0 : Option Nat) (x1 : Int32) (x2 : Int32) (h : xH) : Option xH := l177_84 xFuel o0 x1 0 h
theorem j177_82_ok {xs : List Int32} {d : Nat} (hd : 9 ≤ d) {u3 : Value} {o0 : Option Nat} {x1 : Int32} {x2 : Int32} {h : xH} {r : xH} (hu3 : u3.category = 1) (hf : j177_82 o0 x1 x2 h = some r) : xEv (xTa xs) d 177 (82, [xrv o0, .int x1, .int x2, u3], [], h) (none, r) := by
  unfold j177_82 at hf
  refine ev_do i177_82 rfl ?_
  refine sh_istore (i' := 2) (n := 1) i177_83 (Or.inr ⟨rfl, by decide⟩) (xokst_of (Nat.le_of_ble_eq_true rfl) rfl) ?_
  exact l177_84_ok hd xFuel hu3 hf
def j177_76 (k33 : Option Nat → Int32 → Int32 → xH → Option xH) (o0 : Option Nat) (x1 : Int32) (x2 : Int32) (h : xH) : Option xH := k33 o0 x1 (x2 + 1) h
theorem j177_76_ok {xs : List Int32} {d : Nat} (hd : 9 ≤ d) {k33 : Option Nat → Int32 → Int32 → xH → Option xH} (hk33 : ∀ {u3 : Value} {o0 : Option Nat} {x1 : Int32} {x2 : Int32} {h : xH} {r : xH}, u3.category = 1 → k33 o0 x1 x2 h = some r → xEv (xTa xs) d 177 (33, [xrv o0, .int x1, .int x2, u3], [], h) (none, r)) {u3 : Value} {o0 : Option Nat} {x1 : Int32} {x2 : Int32} {h : xH} {r : xH} (hu3 : u3.category = 1) (hf : j177_76 k33 o0 x1 x2 h = some r) : xEv (xTa xs) d 177 (76, [xrv o0, .int x1, .int x2, u3], [], h) (none, r) := by
  unfold j177_76 at hf
  refine sh_inc (i' := 2) i177_76 rfl (xokst_of (Nat.le_of_ble_eq_true rfl) rfl) rfl ?_
  refine sh_goto (t := 33) i177_79 rfl ?_
  exact hk33 hu3 hf
def l177_33  : Nat → Option Nat → Int32 → Int32 → xH → Option xH
  | 0 => fun _ _ _ _ => none
  | n + 1 => fun o0 x1 x2 h => (if x1 ≤ x2 then j177_82 o0 x1 x2 h else (xgI h o0 11 31).bind fun v_2 => (if v_2 = 0 then (xcv h o0 11).bind fun _ => (fn167 o0 x2 h).bind fun r_4 => (if r_4.1 = 10 then j177_76 (l177_33 n) o0 x1 x2 r_4.2 else (xcv r_4.2 o0 11).bind fun _ => (fn167 o0 x2 r_4.2).bind fun r_6 => (fn141 r_6.1 32 126 r_6.2).bind fun r_7 => (if r_7.1 = 0 then (xcv r_7.2 o0 11).bind fun _ => (fn166 o0 1 x2 r_7.2).bind fun h_9 => j177_76 (l177_33 n) o0 x1 x2 h_9 else j177_76 (l177_33 n) o0 x1 x2 r_7.2)) else j177_82 o0 x1 x2 h))
theorem l177_33_ok {xs : List Int32} {d : Nat} (hd : 9 ≤ d) : ∀ (n : Nat) {u3 : Value} {o0 : Option Nat} {x1 : Int32} {x2 : Int32} {h : xH} {r : xH} (hu3 : u3.category = 1), l177_33 n o0 x1 x2 h = some r → xEv (xTa xs) d 177 (33, [xrv o0, .int x1, .int x2, u3], [], h) (none, r) := by
  intro n
  induction n with
  | zero => intros; rename_i hf; cases hf
  | succ n ih =>
    intro u3 o0 x1 x2 h r hu3 hf
    replace hf : ((if x1 ≤ x2 then j177_82 o0 x1 x2 h else (xgI h o0 11 31).bind fun v_2 => (if v_2 = 0 then (xcv h o0 11).bind fun _ => (fn167 o0 x2 h).bind fun r_4 => (if r_4.1 = 10 then j177_76 (l177_33 n) o0 x1 x2 r_4.2 else (xcv r_4.2 o0 11).bind fun _ => (fn167 o0 x2 r_4.2).bind fun r_6 => (fn141 r_6.1 32 126 r_6.2).bind fun r_7 => (if r_7.1 = 0 then (xcv r_7.2 o0 11).bind fun _ => (fn166 o0 1 x2 r_7.2).bind fun h_9 => j177_76 (l177_33 n) o0 x1 x2 h_9 else j177_76 (l177_33 n) o0 x1 x2 r_7.2)) else j177_82 o0 x1 x2 h))) = some r := hf
    refine ev_do i177_33 rfl ?_
    refine ev_do i177_34 rfl ?_
    refine ev_icmp (t := 82) i177_35 rfl (fun c_1 => ?_) (fun c_1 => ?_)
    · replace hf := x_pos (show x1 ≤ x2 from c_1) hf
      exact j177_82_ok hd hu3 hf
    · replace hf := x_neg (show ¬ x1 ≤ x2 from c_1) hf
      refine sh_aload (i' := 0) (n := 1) i177_38 (Or.inr ⟨rfl, by decide⟩) rfl ?_
      obtain ⟨v_2, ev_2, hf⟩ := x_bind hf
      refine sh_getI i177_39 f177_218 ev_2 ?_
      refine ev_if (t := 82) i177_42 rfl (fun c_3 => ?_) (fun c_3 => ?_)
      · replace hf := x_neg (show ¬ v_2 = 0 from c_3) hf
        exact j177_82_ok hd hu3 hf
      · replace hf := x_pos (show v_2 = 0 from Decidable.byContradiction (fun h9 => c_3 h9)) hf
        refine sh_aload (i' := 0) (n := 1) i177_45 (Or.inr ⟨rfl, by decide⟩) rfl ?_
        refine ev_do i177_46 rfl ?_
        obtain ⟨_, eu_12, hf⟩ := x_bind hf
        obtain ⟨r_4, er_4, hf⟩ := x_bind hf
        refine sh_inv (as := [.int x2]) (z := (some (.int r_4.1), r_4.2)) i177_47 v177_227 (Or.inl ⟨by decide, rfl⟩) m167 rfl (Nat.le_of_ble_eq_true rfl) eu_12 (fn167_call (by omega) er_4) ?_
        refine ev_do i177_50 rfl ?_
        refine ev_icmp (t := 76) i177_52 rfl (fun c_5 => ?_) (fun c_5 => ?_)
        · replace hf := x_pos (show r_4.1 = 10 from c_5) hf
          exact j177_76_ok hd ih hu3 hf
        · replace hf := x_neg (show ¬ r_4.1 = 10 from c_5) hf
          refine sh_aload (i' := 0) (n := 1) i177_55 (Or.inr ⟨rfl, by decide⟩) rfl ?_
          refine ev_do i177_56 rfl ?_
          obtain ⟨_, eu_11, hf⟩ := x_bind hf
          obtain ⟨r_6, er_6, hf⟩ := x_bind hf
          refine sh_inv (as := [.int x2]) (z := (some (.int r_6.1), r_6.2)) i177_57 v177_227 (Or.inl ⟨by decide, rfl⟩) m167 rfl (Nat.le_of_ble_eq_true rfl) eu_11 (fn167_call (by omega) er_6) ?_
          refine ev_do i177_60 rfl ?_
          refine ev_do i177_62 rfl ?_
          obtain ⟨r_7, er_7, hf⟩ := x_bind hf
          refine ev_sta (as := [.int 126, .int 32, .int r_6.1]) (z := (some (.int r_7.1), r_7.2)) i177_64 v177_154 (Or.inl rfl) m141 rfl (Nat.le_of_ble_eq_true rfl) (fn141_call (by omega) er_7) ?_
          refine ev_if (t := 76) i177_67 rfl (fun c_8 => ?_) (fun c_8 => ?_)
          · replace hf := x_neg (show ¬ r_7.1 = 0 from c_8) hf
            exact j177_76_ok hd ih hu3 hf
          · replace hf := x_pos (show r_7.1 = 0 from Decidable.byContradiction (fun h9 => c_8 h9)) hf
            refine sh_aload (i' := 0) (n := 1) i177_70 (Or.inr ⟨rfl, by decide⟩) rfl ?_
            refine ev_do i177_71 rfl ?_
            refine ev_do i177_72 rfl ?_
            obtain ⟨_, eu_10, hf⟩ := x_bind hf
            obtain ⟨h_9, eh_9, hf⟩ := x_bind hf
            refine sh_inv (as := [.int x2, .int 1]) (z := (none, h_9)) i177_73 v177_267 (Or.inl ⟨by decide, rfl⟩) m166 rfl (Nat.le_of_ble_eq_true rfl) eu_10 (fn166_call (by omega) eh_9) ?_
            exact j177_76_ok hd ih hu3 hf
def fn177 (o0 : Option Nat) (x1 : Int32) (h : xH) : Option xH := (xpF h o0 11 31 .int (.int 0)).bind fun h_1 => (xgR h_1 o0 11 14).bind fun a_2 => (xaS h_1 13 (fun x => x) a_2 40 0).bind fun h_3 => (xgR h_3 o0 11 15).bind fun a_4 => (xaS h_3 13 (fun x => x) a_4 40 0).bind fun h_5 => (xpF h_5 o0 11 35 .boolean (.int 0)).bind fun h_6 => (xpF h_6 o0 11 36 .boolean (.int 1)).bind fun h_7 => l177_33 xFuel o0 x1 0 h_7
theorem fn177_call {xs : List Int32} {d : Nat} (hd : 10 ≤ d) {o0 : Option Nat} {x1 : Int32} {h : xH} {r : xH} (hf : fn177 o0 x1 h = some r) : xCall (xTa xs) d 177 [xrv o0, .int x1] h (none, r) := by
  obtain ⟨d, rfl⟩ : ∃ d2, d = d2 + 1 := ⟨d - 1, by omega⟩
  replace hd : 9 ≤ d := by omega
  refine call_of2 (fl := [xrv o0, .int x1]) (Ls := [xrv o0, .int x1, .float 0, .float 0]) m177 (by simp [xfl, xrv_cat, xc_i, xc_j, xc_a, xc_f]) (Nat.le_of_ble_eq_true rfl) rfl ?_
  unfold fn177 at hf
  refine sh_aload (i' := 0) (n := 1) i177_0 (Or.inr ⟨rfl, by decide⟩) rfl ?_
  refine ev_do i177_1 rfl ?_
  obtain ⟨h_1, eh_1, hf⟩ := x_bind hf
  refine sh_put i177_2 f177_218 (by decide) rfl eh_1 ?_
  refine sh_aload (i' := 0) (n := 1) i177_5 (Or.inr ⟨rfl, by decide⟩) rfl ?_
  obtain ⟨a_2, ea_2, hf⟩ := x_bind hf
  refine sh_getR i177_6 f177_47 ea_2 ?_
  refine ev_do i177_9 rfl ?_
  refine ev_do i177_11 rfl ?_
  obtain ⟨h_3, eh_3, hf⟩ := x_bind hf
  refine sh_ast (tg := 13) i177_12 (Or.inl ⟨rfl, rfl, rfl⟩) eh_3 ?_
  refine sh_aload (i' := 0) (n := 1) i177_13 (Or.inr ⟨rfl, by decide⟩) rfl ?_
  obtain ⟨a_4, ea_4, hf⟩ := x_bind hf
  refine sh_getR i177_14 f177_50 ea_4 ?_
  refine ev_do i177_17 rfl ?_
  refine ev_do i177_19 rfl ?_
  obtain ⟨h_5, eh_5, hf⟩ := x_bind hf
  refine sh_ast (tg := 13) i177_20 (Or.inl ⟨rfl, rfl, rfl⟩) eh_5 ?_
  refine sh_aload (i' := 0) (n := 1) i177_21 (Or.inr ⟨rfl, by decide⟩) rfl ?_
  refine ev_do i177_22 rfl ?_
  obtain ⟨h_6, eh_6, hf⟩ := x_bind hf
  refine sh_put i177_23 f177_278 (by decide) rfl eh_6 ?_
  refine sh_aload (i' := 0) (n := 1) i177_26 (Or.inr ⟨rfl, by decide⟩) rfl ?_
  refine ev_do i177_27 rfl ?_
  obtain ⟨h_7, eh_7, hf⟩ := x_bind hf
  refine sh_put i177_28 f177_282 (by decide) rfl eh_7 ?_
  refine ev_do i177_31 rfl ?_
  refine sh_istore (i' := 2) (n := 1) i177_32 (Or.inr ⟨rfl, by decide⟩) (xokst_of (Nat.le_of_ble_eq_true rfl) rfl) ?_
  exact l177_33_ok hd xFuel rfl hf
end
section
def l188_215  : Nat → Option Nat → Int32 → Int32 → Int32 → xH → Option xH
  | 0 => fun _ _ _ _ _ => none
  | n + 1 => fun o0 x1 x2 x3 h => (xgR h o0 11 15).bind fun a_1 => (xaI h 13 a_1 x1).bind fun v_2 => (if v_2 ≤ x3 then some h else (xgR h o0 11 24).bind fun a_4 => (xgR h o0 11 24).bind fun a_5 => (xaI h 13 a_5 (4800 + x3)).bind fun v_6 => (xaS h 13 (fun x => x) a_4 ((120 * x1) + x3) v_6).bind fun h_7 => (xgR h_7 o0 11 25).bind fun a_8 => (xgR h_7 o0 11 25).bind fun a_9 => (xaI h_7 13 a_9 (4800 + x3)).bind fun v_10 => (xaS h_7 13 (fun x => x) a_8 ((120 * x1) + x3) v_10).bind fun h_11 => (xgR h_11 o0 11 26).bind fun a_12 => (xgR h_11 o0 11 26).bind fun a_13 => (xaI h_11 13 a_13 (4800 + x3)).bind fun v_14 => (xaS h_11 13 (fun x => x) a_12 ((120 * x1) + x3) v_14).bind fun h_15 => (xgR h_15 o0 11 27).bind fun a_16 => (xgR h_15 o0 11 27).bind fun a_17 => (xaI h_15 13 a_17 (4800 + x3)).bind fun v_18 => (xaS h_15 13 (fun x => x) a_16 ((120 * x1) + x3) v_18).bind fun h_19 => (xgR h_19 o0 11 28).bind fun a_20 => (xgR h_19 o0 11 28).bind fun a_21 => (xaI h_19 14 a_21 (4800 + x3)).bind fun v_22 => (xaS h_19 14 (vp_nar .boolean) a_20 ((120 * x1) + x3) v_22).bind fun h_23 => (xgR h_23 o0 11 29).bind fun a_24 => (xgR h_23 o0 11 29).bind fun a_25 => (xaI h_23 13 a_25 (4800 + x3)).bind fun v_26 => (xaS h_23 13 (fun x => x) a_24 ((120 * x1) + x3) v_26).bind fun h_27 => (xgR h_27 o0 11 30).bind fun a_28 => (xgR h_27 o0 11 30).bind fun a_29 => (xaI h_27 13 a_29 (4800 + x3)).bind fun v_30 => (xaS h_27 13 (fun x => x) a_28 ((120 * x1) + x3) v_30).bind fun h_31 => l188_215 n o0 x1 x2 (x3 + 1) h_31)
theorem l188_215_ok {xs : List Int32} {d : Nat} (hd : 1 ≤ d) : ∀ (n : Nat) {u4 : Value} {u5 : Value} {o0 : Option Nat} {x1 : Int32} {x2 : Int32} {x3 : Int32} {h : xH} {r : xH} (hu4 : u4.category = 1) (hu5 : u5.category = 1), l188_215 n o0 x1 x2 x3 h = some r → xEv (xTa xs) d 188 (215, [xrv o0, .int x1, .int x2, .int x3, u4, u5], [], h) (none, r) := by
  intro n
  induction n with
  | zero => intros; rename_i hf; cases hf
  | succ n ih =>
    intro u4 u5 o0 x1 x2 x3 h r hu4 hu5 hf
    replace hf : ((xgR h o0 11 15).bind fun a_1 => (xaI h 13 a_1 x1).bind fun v_2 => (if v_2 ≤ x3 then some h else (xgR h o0 11 24).bind fun a_4 => (xgR h o0 11 24).bind fun a_5 => (xaI h 13 a_5 (4800 + x3)).bind fun v_6 => (xaS h 13 (fun x => x) a_4 ((120 * x1) + x3) v_6).bind fun h_7 => (xgR h_7 o0 11 25).bind fun a_8 => (xgR h_7 o0 11 25).bind fun a_9 => (xaI h_7 13 a_9 (4800 + x3)).bind fun v_10 => (xaS h_7 13 (fun x => x) a_8 ((120 * x1) + x3) v_10).bind fun h_11 => (xgR h_11 o0 11 26).bind fun a_12 => (xgR h_11 o0 11 26).bind fun a_13 => (xaI h_11 13 a_13 (4800 + x3)).bind fun v_14 => (xaS h_11 13 (fun x => x) a_12 ((120 * x1) + x3) v_14).bind fun h_15 => (xgR h_15 o0 11 27).bind fun a_16 => (xgR h_15 o0 11 27).bind fun a_17 => (xaI h_15 13 a_17 (4800 + x3)).bind fun v_18 => (xaS h_15 13 (fun x => x) a_16 ((120 * x1) + x3) v_18).bind fun h_19 => (xgR h_19 o0 11 28).bind fun a_20 => (xgR h_19 o0 11 28).bind fun a_21 => (xaI h_19 14 a_21 (4800 + x3)).bind fun v_22 => (xaS h_19 14 (vp_nar .boolean) a_20 ((120 * x1) + x3) v_22).bind fun h_23 => (xgR h_23 o0 11 29).bind fun a_24 => (xgR h_23 o0 11 29).bind fun a_25 => (xaI h_23 13 a_25 (4800 + x3)).bind fun v_26 => (xaS h_23 13 (fun x => x) a_24 ((120 * x1) + x3) v_26).bind fun h_27 => (xgR h_27 o0 11 30).bind fun a_28 => (xgR h_27 o0 11 30).bind fun a_29 => (xaI h_27 13 a_29 (4800 + x3)).bind fun v_30 => (xaS h_27 13 (fun x => x) a_28 ((120 * x1) + x3) v_30).bind fun h_31 => l188_215 n o0 x1 x2 (x3 + 1) h_31)) = some r := hf
    refine ev_do i188_215 rfl ?_
    refine sh_aload (i' := 0) (n := 1) i188_216 (Or.inr ⟨rfl, by decide⟩) rfl ?_
    obtain ⟨a_1, ea_1, hf⟩ := x_bind hf
    refine sh_getR i188_217 f188_50 ea_1 ?_
    refine ev_do i188_220 rfl ?_
    obtain ⟨v_2, ev_2, hf⟩ := x_bind hf
    refine sh_aldI (tg := 13) i188_221 (Or.inl ⟨rfl, rfl⟩) ev_2 ?_
    refine ev_icmp (t := 344) i188_222 rfl (fun c_3 => ?_) (fun c_3 => ?_)
    · replace hf := x_pos (show v_2 ≤ x3 from c_3) hf
      obtain rfl := Option.some.inj hf
      exact sh_vret i188_344 m188 rfl
    · replace hf := x_neg (show ¬ v_2 ≤ x3 from c_3) hf
      refine ev_do i188_225 rfl ?_
      refine ev_do i188_227 rfl ?_
      refine ev_do i188_228 rfl ?_
      refine ev_do i188_229 rfl ?_
      refine ev_do i188_230 rfl ?_
      refine sh_istore (i' := 4) (n := 2) i188_231 (Or.inl rfl) (xokst_of (Nat.le_of_ble_eq_true rfl) rfl) ?_
      refine ev_do i188_233 rfl ?_
      refine ev_do i188_236 rfl ?_
      refine ev_do i188_237 rfl ?_
      refine sh_istore (i' := 5) (n := 2) i188_238 (Or.inl rfl) (xokst_of (Nat.le_of_ble_eq_true rfl) rfl) ?_
      refine sh_aload (i' := 0) (n := 1) i188_240 (Or.inr ⟨rfl, by decide⟩) rfl ?_
      obtain ⟨a_4, ea_4, hf⟩ := x_bind hf
      refine sh_getR i188_241 f188_77 ea_4 ?_
      refine ev_do i188_244 rfl ?_
      refine sh_aload (i' := 0) (n := 1) i188_246 (Or.inr ⟨rfl, by decide⟩) rfl ?_
      obtain ⟨a_5, ea_5, hf⟩ := x_bind hf
      refine sh_getR i188_247 f188_77 ea_5 ?_
      refine ev_do i188_250 rfl ?_
      obtain ⟨v_6, ev_6, hf⟩ := x_bind hf
      refine sh_aldI (tg := 13) i188_252 (Or.inl ⟨rfl, rfl⟩) ev_6 ?_
      obtain ⟨h_7, eh_7, hf⟩ := x_bind hf
      refine sh_ast (tg := 13) i188_253 (Or.inl ⟨rfl, rfl, rfl⟩) eh_7 ?_
      refine sh_aload (i' := 0) (n := 1) i188_254 (Or.inr ⟨rfl, by decide⟩) rfl ?_
      obtain ⟨a_8, ea_8, hf⟩ := x_bind hf
      refine sh_getR i188_255 f188_80 ea_8 ?_
      refine ev_do i188_258 rfl ?_
      refine sh_aload (i' := 0) (n := 1) i188_260 (Or.inr ⟨rfl, by decide⟩) rfl ?_
      obtain ⟨a_9, ea_9, hf⟩ := x_bind hf
      refine sh_getR i188_261 f188_80 ea_9 ?_
      refine ev_do i188_264 rfl ?_
      obtain ⟨v_10, ev_10, hf⟩ := x_bind hf
      refine sh_aldI (tg := 13) i188_266 (Or.inl ⟨rfl, rfl⟩) ev_10 ?_
      obtain ⟨h_11, eh_11, hf⟩ := x_bind hf
      refine sh_ast (tg := 13) i188_267 (Or.inl ⟨rfl, rfl, rfl⟩) eh_11 ?_
      refine sh_aload (i' := 0) (n := 1) i188_268 (Or.inr ⟨rfl, by decide⟩) rfl ?_
      obtain ⟨a_12, ea_12, hf⟩ := x_bind hf
      refine sh_getR i188_269 f188_83 ea_12 ?_
      refine ev_do i188_272 rfl ?_
      refine sh_aload (i' := 0) (n := 1) i188_274 (Or.inr ⟨rfl, by decide⟩) rfl ?_
      obtain ⟨a_13, ea_13, hf⟩ := x_bind hf
      refine sh_getR i188_275 f188_83 ea_13 ?_
      refine ev_do i188_278 rfl ?_
      obtain ⟨v_14, ev_14, hf⟩ := x_bind hf
      refine sh_aldI (tg := 13) i188_280 (Or.inl ⟨rfl, rfl⟩) ev_14 ?_
      obtain ⟨h_15, eh_15, hf⟩ := x_bind hf
      refine sh_ast (tg := 13) i188_281 (Or.inl ⟨rfl, rfl, rfl⟩) eh_15 ?_
      refine sh_aload (i' := 0) (n := 1) i188_282 (Or.inr ⟨rfl, by decide⟩) rfl ?_
      obtain ⟨a_16, ea_16, hf⟩ := x_bind hf
      refine sh_getR i188_283 f188_86 ea_16 ?_
      refine ev_do i188_286 rfl ?_
      refine sh_aload (i' := 0) (n := 1) i188_288 (Or.inr ⟨rfl, by decide⟩) rfl ?_
      obtain ⟨a_17, ea_17, hf⟩ := x_bind hf
      refine sh_getR i188_289 f188_86 ea_17 ?_
      refine ev_do i188_292 rfl ?_
      obtain ⟨v_18, ev_18, hf⟩ := x_bind hf
      refine sh_aldI (tg := 13) i188_294 (Or.inl ⟨rfl, rfl⟩) ev_18 ?_
      obtain ⟨h_19, eh_19, hf⟩ := x_bind hf
      refine sh_ast (tg := 13) i188_295 (Or.inl ⟨rfl, rfl, rfl⟩) eh_19 ?_
      refine sh_aload (i' := 0) (n := 1) i188_296 (Or.inr ⟨rfl, by decide⟩) rfl ?_
      obtain ⟨a_20, ea_20, hf⟩ := x_bind hf
      refine sh_getR i188_297 f188_89 ea_20 ?_
      refine ev_do i188_300 rfl ?_
      refine sh_aload (i' := 0) (n := 1) i188_302 (Or.inr ⟨rfl, by decide⟩) rfl ?_
      obtain ⟨a_21, ea_21, hf⟩ := x_bind hf
      refine sh_getR i188_303 f188_89 ea_21 ?_
      refine ev_do i188_306 rfl ?_
      obtain ⟨v_22, ev_22, hf⟩ := x_bind hf
      refine sh_aldI (tg := 14) i188_308 (Or.inr (Or.inr ⟨rfl, rfl⟩)) ev_22 ?_
      obtain ⟨h_23, eh_23, hf⟩ := x_bind hf
      refine sh_ast (tg := 14) i188_309 (Or.inr (Or.inr ⟨rfl, rfl, rfl⟩)) eh_23 ?_
      refine sh_aload (i' := 0) (n := 1) i188_310 (Or.inr ⟨rfl, by decide⟩) rfl ?_
      obtain ⟨a_24, ea_24, hf⟩ := x_bind hf
      refine sh_getR i188_311 f188_92 ea_24 ?_
      refine ev_do i188_314 rfl ?_
      refine sh_aload (i' := 0) (n := 1) i188_316 (Or.inr ⟨rfl, by decide⟩) rfl ?_
      obtain ⟨a_25, ea_25, hf⟩ := x_bind hf
      refine sh_getR i188_317 f188_92 ea_25 ?_
      refine ev_do i188_320 rfl ?_
      obtain ⟨v_26, ev_26, hf⟩ := x_bind hf
      refine sh_aldI (tg := 13) i188_322 (Or.inl ⟨rfl, rfl⟩) ev_26 ?_
      obtain ⟨h_27, eh_27, hf⟩ := x_bind hf
      refine sh_ast (tg := 13) i188_323 (Or.inl ⟨rfl, rfl, rfl⟩) eh_27 ?_
      refine sh_aload (i' := 0) (n := 1) i188_324 (Or.inr ⟨rfl, by decide⟩) rfl ?_
      obtain ⟨a_28, ea_28, hf⟩ := x_bind hf
      refine sh_getR i188_325 f188_95 ea_28 ?_
      refine ev_do i188_328 rfl ?_
      refine sh_aload (i' := 0) (n := 1) i188_330 (Or.inr ⟨rfl, by decide⟩) rfl ?_
      obtain ⟨a_29, ea_29, hf⟩ := x_bind hf
      refine sh_getR i188_331 f188_95 ea_29 ?_
      refine ev_do i188_334 rfl ?_
      obtain ⟨v_30, ev_30, hf⟩ := x_bind hf
      refine sh_aldI (tg := 13) i188_336 (Or.inl ⟨rfl, rfl⟩) ev_30 ?_
      obtain ⟨h_31, eh_31, hf⟩ := x_bind hf
      refine sh_ast (tg := 13) i188_337 (Or.inl ⟨rfl, rfl, rfl⟩) eh_31 ?_
      refine sh_inc (i' := 3) i188_338 rfl (xokst_of (Nat.le_of_ble_eq_true rfl) rfl) rfl ?_
      refine sh_goto (t := 215) i188_341 rfl ?_
      exact ih rfl rfl hf
def l188_70  : Nat → Option Nat → Int32 → Int32 → Int32 → xH → Option xH
  | 0 => fun _ _ _ _ _ => none
  | n + 1 => fun o0 x1 x2 x3 h => (xgR h o0 11 14).bind fun a_1 => (xaI h 13 a_1 x1).bind fun v_2 => (if v_2 ≤ x3 then l188_215 xFuel o0 x1 x2 0 h else (xgR h o0 11 16).bind fun a_4 => (xgR h o0 11 16).bind fun a_5 => (xaI h 13 a_5 (960 + x3)).bind fun v_6 => (xaS h 13 (fun x => x) a_4 ((24 * x1) + x3) v_6).bind fun h_7 => (xgR h_7 o0 11 17).bind fun a_8 => (xgR h_7 o0 11 17).bind fun a_9 => (xaI h_7 13 a_9 (960 + x3)).bind fun v_10 => (xaS h_7 13 (fun x => x) a_8 ((24 * x1) + x3) v_10).bind fun h_11 => (xgR h_11 o0 11 18).bind fun a_12 => (xgR h_11 o0 11 18).bind fun a_13 => (xaI h_11 13 a_13 (960 + x3)).bind fun v_14 => (xaS h_11 13 (fun x => x) a_12 ((24 * x1) + x3) v_14).bind fun h_15 => (xgR h_15 o0 11 19).bind fun a_16 => (xgR h_15 o0 11 19).bind fun a_17 => (xaI h_15 13 a_17 (960 + x3)).bind fun v_18 => (xaS h_15 13 (fun x => x) a_16 ((24 * x1) + x3) v_18).bind fun h_19 => (xgR h_19 o0 11 20).bind fun a_20 => (xgR h_19 o0 11 20).bind fun a_21 => (xaI h_19 13 a_21 (960 + x3)).bind fun v_22 => (xaS h_19 13 (fun x => x) a_20 ((24 * x1) + x3) v_22).bind fun h_23 => (xgR h_23 o0 11 21).bind fun a_24 => (xgR h_23 o0 11 21).bind fun a_25 => (xaI h_23 13 a_25 (960 + x3)).bind fun v_26 => (xaS h_23 13 (fun x => x) a_24 ((24 * x1) + x3) v_26).bind fun h_27 => (xgR h_27 o0 11 22).bind fun a_28 => (xgR h_27 o0 11 22).bind fun a_29 => (xaI h_27 13 a_29 (960 + x3)).bind fun v_30 => (xaS h_27 13 (fun x => x) a_28 ((24 * x1) + x3) v_30).bind fun h_31 => (xgR h_31 o0 11 23).bind fun a_32 => (xgR h_31 o0 11 23).bind fun a_33 => (xaI h_31 14 a_33 (960 + x3)).bind fun v_34 => (xaS h_31 14 (vp_nar .boolean) a_32 ((24 * x1) + x3) v_34).bind fun h_35 => l188_70 n o0 x1 x2 (x3 + 1) h_35)
theorem l188_70_ok {xs : List Int32} {d : Nat} (hd : 1 ≤ d) : ∀ (n : Nat) {u4 : Value} {u5 : Value} {o0 : Option Nat} {x1 : Int32} {x2 : Int32} {x3 : Int32} {h : xH} {r : xH} (hu4 : u4.category = 1) (hu5 : u5.category = 1), l188_70 n o0 x1 x2 x3 h = some r → xEv (xTa xs) d 188 (70, [xrv o0, .int x1, .int x2, .int x3, u4, u5], [], h) (none, r) := by
  intro n
  induction n with
  | zero => intros; rename_i hf; cases hf
  | succ n ih =>
    intro u4 u5 o0 x1 x2 x3 h r hu4 hu5 hf
    replace hf : ((xgR h o0 11 14).bind fun a_1 => (xaI h 13 a_1 x1).bind fun v_2 => (if v_2 ≤ x3 then l188_215 xFuel o0 x1 x2 0 h else (xgR h o0 11 16).bind fun a_4 => (xgR h o0 11 16).bind fun a_5 => (xaI h 13 a_5 (960 + x3)).bind fun v_6 => (xaS h 13 (fun x => x) a_4 ((24 * x1) + x3) v_6).bind fun h_7 => (xgR h_7 o0 11 17).bind fun a_8 => (xgR h_7 o0 11 17).bind fun a_9 => (xaI h_7 13 a_9 (960 + x3)).bind fun v_10 => (xaS h_7 13 (fun x => x) a_8 ((24 * x1) + x3) v_10).bind fun h_11 => (xgR h_11 o0 11 18).bind fun a_12 => (xgR h_11 o0 11 18).bind fun a_13 => (xaI h_11 13 a_13 (960 + x3)).bind fun v_14 => (xaS h_11 13 (fun x => x) a_12 ((24 * x1) + x3) v_14).bind fun h_15 => (xgR h_15 o0 11 19).bind fun a_16 => (xgR h_15 o0 11 19).bind fun a_17 => (xaI h_15 13 a_17 (960 + x3)).bind fun v_18 => (xaS h_15 13 (fun x => x) a_16 ((24 * x1) + x3) v_18).bind fun h_19 => (xgR h_19 o0 11 20).bind fun a_20 => (xgR h_19 o0 11 20).bind fun a_21 => (xaI h_19 13 a_21 (960 + x3)).bind fun v_22 => (xaS h_19 13 (fun x => x) a_20 ((24 * x1) + x3) v_22).bind fun h_23 => (xgR h_23 o0 11 21).bind fun a_24 => (xgR h_23 o0 11 21).bind fun a_25 => (xaI h_23 13 a_25 (960 + x3)).bind fun v_26 => (xaS h_23 13 (fun x => x) a_24 ((24 * x1) + x3) v_26).bind fun h_27 => (xgR h_27 o0 11 22).bind fun a_28 => (xgR h_27 o0 11 22).bind fun a_29 => (xaI h_27 13 a_29 (960 + x3)).bind fun v_30 => (xaS h_27 13 (fun x => x) a_28 ((24 * x1) + x3) v_30).bind fun h_31 => (xgR h_31 o0 11 23).bind fun a_32 => (xgR h_31 o0 11 23).bind fun a_33 => (xaI h_31 14 a_33 (960 + x3)).bind fun v_34 => (xaS h_31 14 (vp_nar .boolean) a_32 ((24 * x1) + x3) v_34).bind fun h_35 => l188_70 n o0 x1 x2 (x3 + 1) h_35)) = some r := hf
    refine ev_do i188_70 rfl ?_
    refine sh_aload (i' := 0) (n := 1) i188_71 (Or.inr ⟨rfl, by decide⟩) rfl ?_
    obtain ⟨a_1, ea_1, hf⟩ := x_bind hf
    refine sh_getR i188_72 f188_47 ea_1 ?_
    refine ev_do i188_75 rfl ?_
    obtain ⟨v_2, ev_2, hf⟩ := x_bind hf
    refine sh_aldI (tg := 13) i188_76 (Or.inl ⟨rfl, rfl⟩) ev_2 ?_
    refine ev_icmp (t := 213) i188_77 rfl (fun c_3 => ?_) (fun c_3 => ?_)
    · replace hf := x_pos (show v_2 ≤ x3 from c_3) hf
      refine ev_do i188_213 rfl ?_
      refine sh_istore (i' := 3) (n := 1) i188_214 (Or.inr ⟨rfl, by decide⟩) (xokst_of (Nat.le_of_ble_eq_true rfl) rfl) ?_
      exact l188_215_ok hd xFuel hu4 hu5 hf
    · replace hf := x_neg (show ¬ v_2 ≤ x3 from c_3) hf
      refine ev_do i188_80 rfl ?_
      refine ev_do i188_82 rfl ?_
      refine ev_do i188_83 rfl ?_
      refine ev_do i188_84 rfl ?_
      refine ev_do i188_85 rfl ?_
      refine sh_istore (i' := 4) (n := 2) i188_86 (Or.inl rfl) (xokst_of (Nat.le_of_ble_eq_true rfl) rfl) ?_
      refine ev_do i188_88 rfl ?_
      refine ev_do i188_91 rfl ?_
      refine ev_do i188_92 rfl ?_
      refine sh_istore (i' := 5) (n := 2) i188_93 (Or.inl rfl) (xokst_of (Nat.le_of_ble_eq_true rfl) rfl) ?_
      refine sh_aload (i' := 0) (n := 1) i188_95 (Or.inr ⟨rfl, by decide⟩) rfl ?_
      obtain ⟨a_4, ea_4, hf⟩ := x_bind hf
      refine sh_getR i188_96 f188_53 ea_4 ?_
      refine ev_do i188_99 rfl ?_
      refine sh_aload (i' := 0) (n := 1) i188_101 (Or.inr ⟨rfl, by decide⟩) rfl ?_
      obtain ⟨a_5, ea_5, hf⟩ := x_bind hf
      refine sh_getR i188_102 f188_53 ea_5 ?_
      refine ev_do i188_105 rfl ?_
      obtain ⟨v_6, ev_6, hf⟩ := x_bind hf
      refine sh_aldI (tg := 13) i188_107 (Or.inl ⟨rfl, rfl⟩) ev_6 ?_
      obtain ⟨h_7, eh_7, hf⟩ := x_bind hf
      refine sh_ast (tg := 13) i188_108 (Or.inl ⟨rfl, rfl, rfl⟩) eh_7 ?_
      refine sh_aload (i' := 0) (n := 1) i188_109 (Or.inr ⟨rfl, by decide⟩) rfl ?_
      obtain ⟨a_8, ea_8, hf⟩ := x_bind hf
      refine sh_getR i188_110 f188_56 ea_8 ?_
      refine ev_do i188_113 rfl ?_
      refine sh_aload (i' := 0) (n := 1) i188_115 (Or.inr ⟨rfl, by decide⟩) rfl ?_
      obtain ⟨a_9, ea_9, hf⟩ := x_bind hf
      refine sh_getR i188_116 f188_56 ea_9 ?_
      refine ev_do i188_119 rfl ?_
      obtain ⟨v_10, ev_10, hf⟩ := x_bind hf
      refine sh_aldI (tg := 13) i188_121 (Or.inl ⟨rfl, rfl⟩) ev_10 ?_
      obtain ⟨h_11, eh_11, hf⟩ := x_bind hf
      refine sh_ast (tg := 13) i188_122 (Or.inl ⟨rfl, rfl, rfl⟩) eh_11 ?_
      refine sh_aload (i' := 0) (n := 1) i188_123 (Or.inr ⟨rfl, by decide⟩) rfl ?_
      obtain ⟨a_12, ea_12, hf⟩ := x_bind hf
      refine sh_getR i188_124 f188_59 ea_12 ?_
      refine ev_do i188_127 rfl ?_
      refine sh_aload (i' := 0) (n := 1) i188_129 (Or.inr ⟨rfl, by decide⟩) rfl ?_
      obtain ⟨a_13, ea_13, hf⟩ := x_bind hf
      refine sh_getR i188_130 f188_59 ea_13 ?_
      refine ev_do i188_133 rfl ?_
      obtain ⟨v_14, ev_14, hf⟩ := x_bind hf
      refine sh_aldI (tg := 13) i188_135 (Or.inl ⟨rfl, rfl⟩) ev_14 ?_
      obtain ⟨h_15, eh_15, hf⟩ := x_bind hf
      refine sh_ast (tg := 13) i188_136 (Or.inl ⟨rfl, rfl, rfl⟩) eh_15 ?_
      refine sh_aload (i' := 0) (n := 1) i188_137 (Or.inr ⟨rfl, by decide⟩) rfl ?_
      obtain ⟨a_16, ea_16, hf⟩ := x_bind hf
      refine sh_getR i188_138 f188_62 ea_16 ?_
      refine ev_do i188_141 rfl ?_
      refine sh_aload (i' := 0) (n := 1) i188_143 (Or.inr ⟨rfl, by decide⟩) rfl ?_
      obtain ⟨a_17, ea_17, hf⟩ := x_bind hf
      refine sh_getR i188_144 f188_62 ea_17 ?_
      refine ev_do i188_147 rfl ?_
      obtain ⟨v_18, ev_18, hf⟩ := x_bind hf
      refine sh_aldI (tg := 13) i188_149 (Or.inl ⟨rfl, rfl⟩) ev_18 ?_
      obtain ⟨h_19, eh_19, hf⟩ := x_bind hf
      refine sh_ast (tg := 13) i188_150 (Or.inl ⟨rfl, rfl, rfl⟩) eh_19 ?_
      refine sh_aload (i' := 0) (n := 1) i188_151 (Or.inr ⟨rfl, by decide⟩) rfl ?_
      obtain ⟨a_20, ea_20, hf⟩ := x_bind hf
      refine sh_getR i188_152 f188_65 ea_20 ?_
      refine ev_do i188_155 rfl ?_
      refine sh_aload (i' := 0) (n := 1) i188_157 (Or.inr ⟨rfl, by decide⟩) rfl ?_
      obtain ⟨a_21, ea_21, hf⟩ := x_bind hf
      refine sh_getR i188_158 f188_65 ea_21 ?_
      refine ev_do i188_161 rfl ?_
      obtain ⟨v_22, ev_22, hf⟩ := x_bind hf
      refine sh_aldI (tg := 13) i188_163 (Or.inl ⟨rfl, rfl⟩) ev_22 ?_
      obtain ⟨h_23, eh_23, hf⟩ := x_bind hf
      refine sh_ast (tg := 13) i188_164 (Or.inl ⟨rfl, rfl, rfl⟩) eh_23 ?_
      refine sh_aload (i' := 0) (n := 1) i188_165 (Or.inr ⟨rfl, by decide⟩) rfl ?_
      obtain ⟨a_24, ea_24, hf⟩ := x_bind hf
      refine sh_getR i188_166 f188_68 ea_24 ?_
      refine ev_do i188_169 rfl ?_
      refine sh_aload (i' := 0) (n := 1) i188_171 (Or.inr ⟨rfl, by decide⟩) rfl ?_
      obtain ⟨a_25, ea_25, hf⟩ := x_bind hf
      refine sh_getR i188_172 f188_68 ea_25 ?_
      refine ev_do i188_175 rfl ?_
      obtain ⟨v_26, ev_26, hf⟩ := x_bind hf
      refine sh_aldI (tg := 13) i188_177 (Or.inl ⟨rfl, rfl⟩) ev_26 ?_
      obtain ⟨h_27, eh_27, hf⟩ := x_bind hf
      refine sh_ast (tg := 13) i188_178 (Or.inl ⟨rfl, rfl, rfl⟩) eh_27 ?_
      refine sh_aload (i' := 0) (n := 1) i188_179 (Or.inr ⟨rfl, by decide⟩) rfl ?_
      obtain ⟨a_28, ea_28, hf⟩ := x_bind hf
      refine sh_getR i188_180 f188_71 ea_28 ?_
      refine ev_do i188_183 rfl ?_
      refine sh_aload (i' := 0) (n := 1) i188_185 (Or.inr ⟨rfl, by decide⟩) rfl ?_
      obtain ⟨a_29, ea_29, hf⟩ := x_bind hf
      refine sh_getR i188_186 f188_71 ea_29 ?_
      refine ev_do i188_189 rfl ?_
      obtain ⟨v_30, ev_30, hf⟩ := x_bind hf
      refine sh_aldI (tg := 13) i188_191 (Or.inl ⟨rfl, rfl⟩) ev_30 ?_
      obtain ⟨h_31, eh_31, hf⟩ := x_bind hf
      refine sh_ast (tg := 13) i188_192 (Or.inl ⟨rfl, rfl, rfl⟩) eh_31 ?_
      refine sh_aload (i' := 0) (n := 1) i188_193 (Or.inr ⟨rfl, by decide⟩) rfl ?_
      obtain ⟨a_32, ea_32, hf⟩ := x_bind hf
      refine sh_getR i188_194 f188_74 ea_32 ?_
      refine ev_do i188_197 rfl ?_
      refine sh_aload (i' := 0) (n := 1) i188_199 (Or.inr ⟨rfl, by decide⟩) rfl ?_
      obtain ⟨a_33, ea_33, hf⟩ := x_bind hf
      refine sh_getR i188_200 f188_74 ea_33 ?_
      refine ev_do i188_203 rfl ?_
      obtain ⟨v_34, ev_34, hf⟩ := x_bind hf
      refine sh_aldI (tg := 14) i188_205 (Or.inr (Or.inr ⟨rfl, rfl⟩)) ev_34 ?_
      obtain ⟨h_35, eh_35, hf⟩ := x_bind hf
      refine sh_ast (tg := 14) i188_206 (Or.inr (Or.inr ⟨rfl, rfl, rfl⟩)) eh_35 ?_
      refine sh_inc (i' := 3) i188_207 rfl (xokst_of (Nat.le_of_ble_eq_true rfl) rfl) rfl ?_
      refine sh_goto (t := 70) i188_210 rfl ?_
      exact ih rfl rfl hf
def l188_35  : Nat → Option Nat → Int32 → Int32 → Int32 → xH → Option xH
  | 0 => fun _ _ _ _ _ => none
  | n + 1 => fun o0 x1 x2 x3 h => (if x2 ≤ x3 then l188_70 xFuel o0 x1 x2 0 h else (xgR h o0 11 12).bind fun a_2 => (xgR h o0 11 12).bind fun a_3 => (xaI h 13 a_3 (24000 + x3)).bind fun v_4 => (xaS h 13 (fun x => x) a_2 ((600 * x1) + x3) v_4).bind fun h_5 => l188_35 n o0 x1 x2 (x3 + 1) h_5)
theorem l188_35_ok {xs : List Int32} {d : Nat} (hd : 1 ≤ d) : ∀ (n : Nat) {u4 : Value} {u5 : Value} {o0 : Option Nat} {x1 : Int32} {x2 : Int32} {x3 : Int32} {h : xH} {r : xH} (hu4 : u4.category = 1) (hu5 : u5.category = 1), l188_35 n o0 x1 x2 x3 h = some r → xEv (xTa xs) d 188 (35, [xrv o0, .int x1, .int x2, .int x3, u4, u5], [], h) (none, r) := by
  intro n
  induction n with
  | zero => intros; rename_i hf; cases hf
  | succ n ih =>
    intro u4 u5 o0 x1 x2 x3 h r hu4 hu5 hf
    replace hf : ((if x2 ≤ x3 then l188_70 xFuel o0 x1 x2 0 h else (xgR h o0 11 12).bind fun a_2 => (xgR h o0 11 12).bind fun a_3 => (xaI h 13 a_3 (24000 + x3)).bind fun v_4 => (xaS h 13 (fun x => x) a_2 ((600 * x1) + x3) v_4).bind fun h_5 => l188_35 n o0 x1 x2 (x3 + 1) h_5)) = some r := hf
    refine ev_do i188_35 rfl ?_
    refine ev_do i188_36 rfl ?_
    refine ev_icmp (t := 68) i188_37 rfl (fun c_1 => ?_) (fun c_1 => ?_)
    · replace hf := x_pos (show x2 ≤ x3 from c_1) hf
      refine ev_do i188_68 rfl ?_
      refine sh_istore (i' := 3) (n := 1) i188_69 (Or.inr ⟨rfl, by decide⟩) (xokst_of (Nat.le_of_ble_eq_true rfl) rfl) ?_
      exact l188_70_ok hd xFuel hu4 hu5 hf
    · replace hf := x_neg (show ¬ x2 ≤ x3 from c_1) hf
      refine sh_aload (i' := 0) (n := 1) i188_40 (Or.inr ⟨rfl, by decide⟩) rfl ?_
      obtain ⟨a_2, ea_2, hf⟩ := x_bind hf
      refine sh_getR i188_41 f188_41 ea_2 ?_
      refine ev_do i188_44 rfl ?_
      refine ev_do i188_47 rfl ?_
      refine ev_do i188_48 rfl ?_
      refine ev_do i188_49 rfl ?_
      refine ev_do i188_50 rfl ?_
      refine sh_aload (i' := 0) (n := 1) i188_51 (Or.inr ⟨rfl, by decide⟩) rfl ?_
      obtain ⟨a_3, ea_3, hf⟩ := x_bind hf
      refine sh_getR i188_52 f188_41 ea_3 ?_
      refine ev_do i188_55 rfl ?_
      refine ev_do i188_58 rfl ?_
      refine ev_do i188_59 rfl ?_
      obtain ⟨v_4, ev_4, hf⟩ := x_bind hf
      refine sh_aldI (tg := 13) i188_60 (Or.inl ⟨rfl, rfl⟩) ev_4 ?_
      obtain ⟨h_5, eh_5, hf⟩ := x_bind hf
      refine sh_ast (tg := 13) i188_61 (Or.inl ⟨rfl, rfl, rfl⟩) eh_5 ?_
      refine sh_inc (i' := 3) i188_62 rfl (xokst_of (Nat.le_of_ble_eq_true rfl) rfl) rfl ?_
      refine sh_goto (t := 35) i188_65 rfl ?_
      exact ih hu4 hu5 hf
def fn188 (o0 : Option Nat) (x1 : Int32) (x2 : Int32) (h : xH) : Option xH := (xgR h o0 11 13).bind fun a_1 => (xaS h 13 (fun x => x) a_1 x1 x2).bind fun h_2 => (xgR h_2 o0 11 14).bind fun a_3 => (xgR h_2 o0 11 14).bind fun a_4 => (xaI h_2 13 a_4 40).bind fun v_5 => (xaS h_2 13 (fun x => x) a_3 x1 v_5).bind fun h_6 => (xgR h_6 o0 11 15).bind fun a_7 => (xgR h_6 o0 11 15).bind fun a_8 => (xaI h_6 13 a_8 40).bind fun v_9 => (xaS h_6 13 (fun x => x) a_7 x1 v_9).bind fun h_10 => l188_35 xFuel o0 x1 x2 0 h_10
theorem fn188_call {xs : List Int32} {d : Nat} (hd : 2 ≤ d) {o0 : Option Nat} {x1 : Int32} {x2 : Int32} {h : xH} {r : xH} (hf : fn188 o0 x1 x2 h = some r) : xCall (xTa xs) d 188 [xrv o0, .int x1, .int x2] h (none, r) := by
  obtain ⟨d, rfl⟩ : ∃ d2, d = d2 + 1 := ⟨d - 1, by omega⟩
  replace hd : 1 ≤ d := by omega
  refine call_of2 (fl := [xrv o0, .int x1, .int x2]) (Ls := [xrv o0, .int x1, .int x2, .float 0, .float 0, .float 0]) m188 (by simp [xfl, xrv_cat, xc_i, xc_j, xc_a, xc_f]) (Nat.le_of_ble_eq_true rfl) rfl ?_
  unfold fn188 at hf
  refine sh_aload (i' := 0) (n := 1) i188_0 (Or.inr ⟨rfl, by decide⟩) rfl ?_
  obtain ⟨a_1, ea_1, hf⟩ := x_bind hf
  refine sh_getR i188_1 f188_44 ea_1 ?_
  refine ev_do i188_4 rfl ?_
  refine ev_do i188_5 rfl ?_
  obtain ⟨h_2, eh_2, hf⟩ := x_bind hf
  refine sh_ast (tg := 13) i188_6 (Or.inl ⟨rfl, rfl, rfl⟩) eh_2 ?_
  refine sh_aload (i' := 0) (n := 1) i188_7 (Or.inr ⟨rfl, by decide⟩) rfl ?_
  obtain ⟨a_3, ea_3, hf⟩ := x_bind hf
  refine sh_getR i188_8 f188_47 ea_3 ?_
  refine ev_do i188_11 rfl ?_
  refine sh_aload (i' := 0) (n := 1) i188_12 (Or.inr ⟨rfl, by decide⟩) rfl ?_
  obtain ⟨a_4, ea_4, hf⟩ := x_bind hf
  refine sh_getR i188_13 f188_47 ea_4 ?_
  refine ev_do i188_16 rfl ?_
  obtain ⟨v_5, ev_5, hf⟩ := x_bind hf
  refine sh_aldI (tg := 13) i188_18 (Or.inl ⟨rfl, rfl⟩) ev_5 ?_
  obtain ⟨h_6, eh_6, hf⟩ := x_bind hf
  refine sh_ast (tg := 13) i188_19 (Or.inl ⟨rfl, rfl, rfl⟩) eh_6 ?_
  refine sh_aload (i' := 0) (n := 1) i188_20 (Or.inr ⟨rfl, by decide⟩) rfl ?_
  obtain ⟨a_7, ea_7, hf⟩ := x_bind hf
  refine sh_getR i188_21 f188_50 ea_7 ?_
  refine ev_do i188_24 rfl ?_
  refine sh_aload (i' := 0) (n := 1) i188_25 (Or.inr ⟨rfl, by decide⟩) rfl ?_
  obtain ⟨a_8, ea_8, hf⟩ := x_bind hf
  refine sh_getR i188_26 f188_50 ea_8 ?_
  refine ev_do i188_29 rfl ?_
  obtain ⟨v_9, ev_9, hf⟩ := x_bind hf
  refine sh_aldI (tg := 13) i188_31 (Or.inl ⟨rfl, rfl⟩) ev_9 ?_
  obtain ⟨h_10, eh_10, hf⟩ := x_bind hf
  refine sh_ast (tg := 13) i188_32 (Or.inl ⟨rfl, rfl, rfl⟩) eh_10 ?_
  refine ev_do i188_33 rfl ?_
  refine sh_istore (i' := 3) (n := 1) i188_34 (Or.inr ⟨rfl, by decide⟩) (xokst_of (Nat.le_of_ble_eq_true rfl) rfl) ?_
  exact l188_35_ok hd xFuel rfl rfl hf
end
