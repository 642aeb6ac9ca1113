section
def j224_262  (o0 : Option Nat) (x1 : Int32) (x2 : Int32) (x3 : Int32) (h : xH) : Option (Int32 × xH) := (xgI h o0 11 73).bind fun v_1 => some (v_1, h)
theorem j224_262_ok {xs : List Int32} {d : Nat} (hd : 6 ≤ d) {u4 : Value} {u5 : Value} {u6 : Value} {o0 : Option Nat} {x1 : Int32} {x2 : Int32} {x3 : Int32} {h : xH} {r : (Int32 × xH)} (hu4 : u4.category = 1) (hu5 : u5.category = 1) (hu6 : u6.category = 1) (hf : j224_262 o0 x1 x2 x3 h = some r) : xEv (xTa xs) d 224 (262, [xrv o0, .int x1, .int x2, .int x3, u4, u5, u6], [], h) (some (.int r.1), r.2) := by
  unfold j224_262 at hf
  refine sh_aload (i' := 0) (n := 1) i224_262 (Or.inr ⟨rfl, by decide⟩) rfl ?_
  obtain ⟨v_1, ev_1, hf⟩ := x_bind hf
  refine sh_getI i224_263 f224_455 ev_1 ?_
  obtain rfl := Option.some.inj hf
  exact sh_iret i224_266 m224 rfl rfl
def j224_230 (k203 : Option Nat → Int32 → Int32 → Int32 → xH → Option (Int32 × xH)) (o0 : Option Nat) (x1 : Int32) (x2 : Int32) (x3 : Int32) (h : xH) : Option (Int32 × xH) := k203 o0 x1 x2 (x3 + 1) h
theorem j224_230_ok {xs : List Int32} {d : Nat} (hd : 6 ≤ d) {k203 : Option Nat → Int32 → Int32 → Int32 → xH → Option (Int32 × xH)} (hk203 : ∀ {u4 : Value} {u5 : Value} {u6 : Value} {o0 : Option Nat} {x1 : Int32} {x2 : Int32} {x3 : Int32} {h : xH} {r : (Int32 × xH)}, u4.category = 1 → u5.category = 1 → u6.category = 1 → k203 o0 x1 x2 x3 h = some r → xEv (xTa xs) d 224 (203, [xrv o0, .int x1, .int x2, .int x3, u4, u5, u6], [], h) (some (.int r.1), r.2)) {u4 : Value} {u5 : Value} {u6 : Value} {o0 : Option Nat} {x1 : Int32} {x2 : Int32} {x3 : Int32} {h : xH} {r : (Int32 × xH)} (hu4 : u4.category = 1) (hu5 : u5.category = 1) (hu6 : u6.category = 1) (hf : j224_230 k203 o0 x1 x2 x3 h = some r) : xEv (xTa xs) d 224 (230, [xrv o0, .int x1, .int x2, .int x3, u4, u5, u6], [], h) (some (.int r.1), r.2) := by
  unfold j224_230 at hf
  refine sh_inc (i' := 3) i224_230 rfl (xokst_of (Nat.le_of_ble_eq_true rfl) rfl) rfl ?_
  refine sh_goto (t := 203) i224_233 rfl ?_
  exact hk203 hu4 hu5 hu6 hf
def l224_203  : Nat → Option Nat → Int32 → Int32 → Int32 → xH → Option (Int32 × xH)
  | 0 => fun _ _ _ _ _ => none
  | n + 1 => fun o0 x1 x2 x3 h => (xgR h o0 11 9).bind fun a_1 => (xaI h 13 a_1 x1).bind fun v_2 => (if v_2 ≤ x3 then (xgR h o0 11 6).bind fun a_4 => (xaI h 14 a_4 x1).bind fun v_5 => (if v_5 = 0 then j224_262 o0 x1 x2 x3 h else (xcv h o0 11).bind fun _ => (fn223 o0 x1 3 0 h).bind fun r_7 => (if r_7.1 = 0 then (xcv r_7.2 o0 11).bind fun _ => (fn219 o0 7 0 r_7.2).bind fun h_9 => j224_262 o0 x1 x2 x3 h_9 else j224_262 o0 x1 x2 x3 r_7.2)) else (xcv h o0 11).bind fun _ => (fn223 o0 x1 2 x3 h).bind fun r_12 => (if r_12.1 = 0 then (xcv r_12.2 o0 11).bind fun _ => (fn219 o0 6 x3 r_12.2).bind fun h_14 => j224_230 (l224_203 n) o0 x1 x2 x3 h_14 else j224_230 (l224_203 n) o0 x1 x2 x3 r_12.2))
theorem l224_203_ok {xs : List Int32} {d : Nat} (hd : 6 ≤ d) : ∀ (n : Nat) {u4 : Value} {u5 : Value} {u6 : Value} {o0 : Option Nat} {x1 : Int32} {x2 : Int32} {x3 : Int32} {h : xH} {r : (Int32 × xH)} (hu4 : u4.category = 1) (hu5 : u5.category = 1) (hu6 : u6.category = 1), l224_203 n o0 x1 x2 x3 h = some r → xEv (xTa xs) d 224 (203, [xrv o0, .int x1, .int x2, .int x3, u4, u5, u6], [], h) (some (.int r.1), r.2) := by
  intro n
  induction n with
  | zero => intros; rename_i hf; cases hf
  | succ n ih =>
    intro u4 u5 u6 o0 x1 x2 x3 h r hu4 hu5 hu6 hf
    replace hf : ((xgR h o0 11 9).bind fun a_1 => (xaI h 13 a_1 x1).bind fun v_2 => (if v_2 ≤ x3 then (xgR h o0 11 6).bind fun a_4 => (xaI h 14 a_4 x1).bind fun v_5 => (if v_5 = 0 then j224_262 o0 x1 x2 x3 h else (xcv h o0 11).bind fun _ => (fn223 o0 x1 3 0 h).bind fun r_7 => (if r_7.1 = 0 then (xcv r_7.2 o0 11).bind fun _ => (fn219 o0 7 0 r_7.2).bind fun h_9 => j224_262 o0 x1 x2 x3 h_9 else j224_262 o0 x1 x2 x3 r_7.2)) else (xcv h o0 11).bind fun _ => (fn223 o0 x1 2 x3 h).bind fun r_12 => (if r_12.1 = 0 then (xcv r_12.2 o0 11).bind fun _ => (fn219 o0 6 x3 r_12.2).bind fun h_14 => j224_230 (l224_203 n) o0 x1 x2 x3 h_14 else j224_230 (l224_203 n) o0 x1 x2 x3 r_12.2))) = some r := hf
    refine ev_do i224_203 rfl ?_
    refine sh_aload (i' := 0) (n := 1) i224_204 (Or.inr ⟨rfl, by decide⟩) rfl ?_
    obtain ⟨a_1, ea_1, hf⟩ := x_bind hf
    refine sh_getR i224_205 f224_32 ea_1 ?_
    refine ev_do i224_208 rfl ?_
    obtain ⟨v_2, ev_2, hf⟩ := x_bind hf
    refine sh_aldI (tg := 13) i224_209 (Or.inl ⟨rfl, rfl⟩) ev_2 ?_
    refine ev_icmp (t := 236) i224_210 rfl (fun c_3 => ?_) (fun c_3 => ?_)
    · replace hf := x_pos (show v_2 ≤ x3 from c_3) hf
      refine sh_aload (i' := 0) (n := 1) i224_236 (Or.inr ⟨rfl, by decide⟩) rfl ?_
      obtain ⟨a_4, ea_4, hf⟩ := x_bind hf
      refine sh_getR i224_237 f224_23 ea_4 ?_
      refine ev_do i224_240 rfl ?_
      obtain ⟨v_5, ev_5, hf⟩ := x_bind hf
      refine sh_aldI (tg := 14) i224_241 (Or.inr (Or.inr ⟨rfl, rfl⟩)) ev_5 ?_
      refine ev_if (t := 262) i224_242 rfl (fun c_6 => ?_) (fun c_6 => ?_)
      · replace hf := x_pos (show v_5 = 0 from c_6) hf
        exact j224_262_ok hd hu4 hu5 hu6 hf
      · replace hf := x_neg (show ¬ v_5 = 0 from c_6) hf
        refine sh_aload (i' := 0) (n := 1) i224_245 (Or.inr ⟨rfl, by decide⟩) rfl ?_
        refine ev_do i224_246 rfl ?_
        refine ev_do i224_247 rfl ?_
        refine ev_do i224_248 rfl ?_
        obtain ⟨_, eu_11, hf⟩ := x_bind hf
        obtain ⟨r_7, er_7, hf⟩ := x_bind hf
        refine sh_inv (as := [.int 0, .int 3, .int x1]) (z := (some (.int r_7.1), r_7.2)) i224_249 v224_471 (Or.inl ⟨by decide, rfl⟩) m223 rfl (Nat.le_of_ble_eq_true rfl) eu_11 (fn223_call (by omega) er_7) ?_
        refine ev_if (t := 262) i224_252 rfl (fun c_8 => ?_) (fun c_8 => ?_)
        · replace hf := x_neg (show ¬ r_7.1 = 0 from c_8) hf
          exact j224_262_ok hd hu4 hu5 hu6 hf
        · replace hf := x_pos (show r_7.1 = 0 from Decidable.byContradiction (fun h9 => c_8 h9)) hf
          refine sh_aload (i' := 0) (n := 1) i224_255 (Or.inr ⟨rfl, by decide⟩) rfl ?_
          refine ev_do i224_256 rfl ?_
          refine ev_do i224_258 rfl ?_
          obtain ⟨_, eu_10, hf⟩ := x_bind hf
          obtain ⟨h_9, eh_9, hf⟩ := x_bind hf
          refine sh_inv (as := [.int 0, .int 7]) (z := (none, h_9)) i224_259 v224_462 (Or.inl ⟨by decide, rfl⟩) m219 rfl (Nat.le_of_ble_eq_true rfl) eu_10 (fn219_call (by omega) eh_9) ?_
          exact j224_262_ok hd hu4 hu5 hu6 hf
    · replace hf := x_neg (show ¬ v_2 ≤ x3 from c_3) hf
      refine sh_aload (i' := 0) (n := 1) i224_213 (Or.inr ⟨rfl, by decide⟩) rfl ?_
      refine ev_do i224_214 rfl ?_
      refine ev_do i224_215 rfl ?_
      refine ev_do i224_216 rfl ?_
      obtain ⟨_, eu_16, hf⟩ := x_bind hf
      obtain ⟨r_12, er_12, hf⟩ := x_bind hf
      refine sh_inv (as := [.int x3, .int 2, .int x1]) (z := (some (.int r_12.1), r_12.2)) i224_217 v224_471 (Or.inl ⟨by decide, rfl⟩) m223 rfl (Nat.le_of_ble_eq_true rfl) eu_16 (fn223_call (by omega) er_12) ?_
      refine ev_if (t := 230) i224_220 rfl (fun c_13 => ?_) (fun c_13 => ?_)
      · replace hf := x_neg (show ¬ r_12.1 = 0 from c_13) hf
        exact j224_230_ok hd ih hu4 hu5 hu6 hf
      · replace hf := x_pos (show r_12.1 = 0 from Decidable.byContradiction (fun h9 => c_13 h9)) hf
        refine sh_aload (i' := 0) (n := 1) i224_223 (Or.inr ⟨rfl, by decide⟩) rfl ?_
        refine ev_do i224_224 rfl ?_
        refine ev_do i224_226 rfl ?_
        obtain ⟨_, eu_15, hf⟩ := x_bind hf
        obtain ⟨h_14, eh_14, hf⟩ := x_bind hf
        refine sh_inv (as := [.int x3, .int 6]) (z := (none, h_14)) i224_227 v224_462 (Or.inl ⟨by decide, rfl⟩) m219 rfl (Nat.le_of_ble_eq_true rfl) eu_15 (fn219_call (by omega) eh_14) ?_
        exact j224_230_ok hd ih hu4 hu5 hu6 hf
def j224_189 (k43 : Option Nat → Int32 → Int32 → Int32 → xH → Option (Int32 × xH)) (k52 : Option Nat → Int32 → Int32 → Int32 → Int32 → xH → Option (Int32 × xH)) (o0 : Option Nat) (x1 : Int32) (x2 : Int32) (x3 : Int32) (x4 : Int32) (x5 : Int32) (x6 : Int32) (h : xH) : Option (Int32 × xH) := k52 o0 x1 x2 x3 (x4 + 1) h
theorem j224_189_ok {xs : List Int32} {d : Nat} (hd : 6 ≤ d) {k43 : Option Nat → Int32 → Int32 → Int32 → xH → Option (Int32 × xH)} {k52 : Option Nat → Int32 → Int32 → Int32 → Int32 → xH → Option (Int32 × xH)} (hk43 : ∀ {u4 : Value} {u5 : Value} {u6 : Value} {o0 : Option Nat} {x1 : Int32} {x2 : Int32} {x3 : Int32} {h : xH} {r : (Int32 × xH)}, u4.category = 1 → u5.category = 1 → u6.category = 1 → k43 o0 x1 x2 x3 h = some r → xEv (xTa xs) d 224 (43, [xrv o0, .int x1, .int x2, .int x3, u4, u5, u6], [], h) (some (.int r.1), r.2)) (hk52 : ∀ {u5 : Value} {u6 : Value} {o0 : Option Nat} {x1 : Int32} {x2 : Int32} {x3 : Int32} {x4 : Int32} {h : xH} {r : (Int32 × xH)}, u5.category = 1 → u6.category = 1 → k52 o0 x1 x2 x3 x4 h = some r → xEv (xTa xs) d 224 (52, [xrv o0, .int x1, .int x2, .int x3, .int x4, u5, u6], [], h) (some (.int r.1), r.2)) {o0 : Option Nat} {x1 : Int32} {x2 : Int32} {x3 : Int32} {x4 : Int32} {x5 : Int32} {x6 : Int32} {h : xH} {r : (Int32 × xH)} (hf : j224_189 k43 k52 o0 x1 x2 x3 x4 x5 x6 h = some r) : xEv (xTa xs) d 224 (189, [xrv o0, .int x1, .int x2, .int x3, .int x4, .int x5, .int x6], [], h) (some (.int r.1), r.2) := by
  unfold j224_189 at hf
  refine sh_inc (i' := 4) i224_189 rfl (xokst_of (Nat.le_of_ble_eq_true rfl) rfl) rfl ?_
  refine sh_goto (t := 52) i224_192 rfl ?_
  exact hk52 rfl rfl hf
def j224_170 (k43 : Option Nat → Int32 → Int32 → Int32 → xH → Option (Int32 × xH)) (k52 : Option Nat → Int32 → Int32 → Int32 → Int32 → xH → Option (Int32 × xH)) (o0 : Option Nat) (x1 : Int32) (x2 : Int32) (x3 : Int32) (x4 : Int32) (x5 : Int32) (s0 : Int32) (h : xH) : Option (Int32 × xH) := (if s0 = 0 then j224_189 k43 k52 o0 x1 x2 x3 x4 x5 s0 h else (xgR h o0 11 20).bind fun a_2 => (xaI h 13 a_2 x5).bind fun v_3 => (xcv h o0 11).bind fun _ => (fn219 o0 x3 v_3 h).bind fun h_4 => j224_189 k43 k52 o0 x1 x2 x3 x4 x5 s0 h_4)
theorem j224_170_ok {xs : List Int32} {d : Nat} (hd : 6 ≤ d) {k43 : Option Nat → Int32 → Int32 → Int32 → xH → Option (Int32 × xH)} {k52 : Option Nat → Int32 → Int32 → Int32 → Int32 → xH → Option (Int32 × xH)} (hk43 : ∀ {u4 : Value} {u5 : Value} {u6 : Value} {o0 : Option Nat} {x1 : Int32} {x2 : Int32} {x3 : Int32} {h : xH} {r : (Int32 × xH)}, u4.category = 1 → u5.category = 1 → u6.category = 1 → k43 o0 x1 x2 x3 h = some r → xEv (xTa xs) d 224 (43, [xrv o0, .int x1, .int x2, .int x3, u4, u5, u6], [], h) (some (.int r.1), r.2)) (hk52 : ∀ {u5 : Value} {u6 : Value} {o0 : Option Nat} {x1 : Int32} {x2 : Int32} {x3 : Int32} {x4 : Int32} {h : xH} {r : (Int32 × xH)}, u5.category = 1 → u6.category = 1 → k52 o0 x1 x2 x3 x4 h = some r → xEv (xTa xs) d 224 (52, [xrv o0, .int x1, .int x2, .int x3, .int x4, u5, u6], [], h) (some (.int r.1), r.2)) {u6 : Value} {o0 : Option Nat} {x1 : Int32} {x2 : Int32} {x3 : Int32} {x4 : Int32} {x5 : Int32} {s0 : Int32} {h : xH} {r : (Int32 × xH)} (hu6 : u6.category = 1) (hf : j224_170 k43 k52 o0 x1 x2 x3 x4 x5 s0 h = some r) : xEv (xTa xs) d 224 (170, [xrv o0, .int x1, .int x2, .int x3, .int x4, .int x5, u6], [.int s0], h) (some (.int r.1), r.2) := by
  unfold j224_170 at hf
  refine sh_istore (i' := 6) (n := 2) i224_170 (Or.inl rfl) (xokst_of (Nat.le_of_ble_eq_true rfl) rfl) ?_
  refine ev_do i224_172 rfl ?_
  refine ev_if (t := 189) i224_174 rfl (fun c_1 => ?_) (fun c_1 => ?_)
  · replace hf := x_pos (show s0 = 0 from c_1) hf
    exact j224_189_ok hd hk43 hk52 hf
  · replace hf := x_neg (show ¬ s0 = 0 from c_1) hf
    refine sh_aload (i' := 0) (n := 1) i224_177 (Or.inr ⟨rfl, by decide⟩) rfl ?_
    refine ev_do i224_178 rfl ?_
    refine sh_aload (i' := 0) (n := 1) i224_179 (Or.inr ⟨rfl, by decide⟩) rfl ?_
    obtain ⟨a_2, ea_2, hf⟩ := x_bind hf
    refine sh_getR i224_180 f224_65 ea_2 ?_
    refine ev_do i224_183 rfl ?_
    obtain ⟨v_3, ev_3, hf⟩ := x_bind hf
    refine sh_aldI (tg := 13) i224_185 (Or.inl ⟨rfl, rfl⟩) ev_3 ?_
    obtain ⟨_, eu_5, hf⟩ := x_bind hf
    obtain ⟨h_4, eh_4, hf⟩ := x_bind hf
    refine sh_inv (as := [.int v_3, .int x3]) (z := (none, h_4)) i224_186 v224_462 (Or.inl ⟨by decide, rfl⟩) m219 rfl (Nat.le_of_ble_eq_true rfl) eu_5 (fn219_call (by omega) eh_4) ?_
    exact j224_189_ok hd hk43 hk52 hf
def j224_169 (k43 : Option Nat → Int32 → Int32 → Int32 → xH → Option (Int32 × xH)) (k52 : Option Nat → Int32 → Int32 → Int32 → Int32 → xH → Option (Int32 × xH)) (o0 : Option Nat) (x1 : Int32) (x2 : Int32) (x3 : Int32) (x4 : Int32) (x5 : Int32) (h : xH) : Option (Int32 × xH) := j224_170 k43 k52 o0 x1 x2 x3 x4 x5 0 h
theorem j224_169_ok {xs : List Int32} {d : Nat} (hd : 6 ≤ d) {k43 : Option Nat → Int32 → Int32 → Int32 → xH → Option (Int32 × xH)} {k52 : Option Nat → Int32 → Int32 → Int32 → Int32 → xH → Option (Int32 × xH)} (hk43 : ∀ {u4 : Value} {u5 : Value} {u6 : Value} {o0 : Option Nat} {x1 : Int32} {x2 : Int32} {x3 : Int32} {h : xH} {r : (Int32 × xH)}, u4.category = 1 → u5.category = 1 → u6.category = 1 → k43 o0 x1 x2 x3 h = some r → xEv (xTa xs) d 224 (43, [xrv o0, .int x1, .int x2, .int x3, u4, u5, u6], [], h) (some (.int r.1), r.2)) (hk52 : ∀ {u5 : Value} {u6 : Value} {o0 : Option Nat} {x1 : Int32} {x2 : Int32} {x3 : Int32} {x4 : Int32} {h : xH} {r : (Int32 × xH)}, u5.category = 1 → u6.category = 1 → k52 o0 x1 x2 x3 x4 h = some r → xEv (xTa xs) d 224 (52, [xrv o0, .int x1, .int x2, .int x3, .int x4, u5, u6], [], h) (some (.int r.1), r.2)) {u6 : Value} {o0 : Option Nat} {x1 : Int32} {x2 : Int32} {x3 : Int32} {x4 : Int32} {x5 : Int32} {h : xH} {r : (Int32 × xH)} (hu6 : u6.category = 1) (hf : j224_169 k43 k52 o0 x1 x2 x3 x4 x5 h = some r) : xEv (xTa xs) d 224 (169, [xrv o0, .int x1, .int x2, .int x3, .int x4, .int x5, u6], [], h) (some (.int r.1), r.2) := by
  unfold j224_169 at hf
  refine ev_do i224_169 rfl ?_
  exact j224_170_ok hd hk43 hk52 hu6 hf
def j224_141 (k43 : Option Nat → Int32 → Int32 → Int32 → xH → Option (Int32 × xH)) (k52 : Option Nat → Int32 → Int32 → Int32 → Int32 → xH → Option (Int32 × xH)) (o0 : Option Nat) (x1 : Int32) (x2 : Int32) (x3 : Int32) (x4 : Int32) (x5 : Int32) (h : xH) : Option (Int32 × xH) := j224_170 k43 k52 o0 x1 x2 x3 x4 x5 0 h
theorem j224_141_ok {xs : List Int32} {d : Nat} (hd : 6 ≤ d) {k43 : Option Nat → Int32 → Int32 → Int32 → xH → Option (Int32 × xH)} {k52 : Option Nat → Int32 → Int32 → Int32 → Int32 → xH → Option (Int32 × xH)} (hk43 : ∀ {u4 : Value} {u5 : Value} {u6 : Value} {o0 : Option Nat} {x1 : Int32} {x2 : Int32} {x3 : Int32} {h : xH} {r : (Int32 × xH)}, u4.category = 1 → u5.category = 1 → u6.category = 1 → k43 o0 x1 x2 x3 h = some r → xEv (xTa xs) d 224 (43, [xrv o0, .int x1, .int x2, .int x3, u4, u5, u6], [], h) (some (.int r.1), r.2)) (hk52 : ∀ {u5 : Value} {u6 : Value} {o0 : Option Nat} {x1 : Int32} {x2 : Int32} {x3 : Int32} {x4 : Int32} {h : xH} {r : (Int32 × xH)}, u5.category = 1 → u6.category = 1 → k52 o0 x1 x2 x3 x4 h = some r → xEv (xTa xs) d 224 (52, [xrv o0, .int x1, .int x2, .int x3, .int x4, u5, u6], [], h) (some (.int r.1), r.2)) {u6 : Value} {o0 : Option Nat} {x1 : Int32} {x2 : Int32} {x3 : Int32} {x4 : Int32} {x5 : Int32} {h : xH} {r : (Int32 × xH)} (hu6 : u6.category = 1) (hf : j224_141 k43 k52 o0 x1 x2 x3 x4 x5 h = some r) : xEv (xTa xs) d 224 (141, [xrv o0, .int x1, .int x2, .int x3, .int x4, .int x5, u6], [], h) (some (.int r.1), r.2) := by
  unfold j224_141 at hf
  refine ev_do i224_141 rfl ?_
  refine sh_goto (t := 170) i224_142 rfl ?_
  exact j224_170_ok hd hk43 hk52 hu6 hf
def j224_107 (k43 : Option Nat → Int32 → Int32 → Int32 → xH → Option (Int32 × xH)) (k52 : Option Nat → Int32 → Int32 → Int32 → Int32 → xH → Option (Int32 × xH)) (o0 : Option Nat) (x1 : Int32) (x2 : Int32) (x3 : Int32) (x4 : Int32) (x5 : Int32) (h : xH) : Option (Int32 × xH) := j224_170 k43 k52 o0 x1 x2 x3 x4 x5 0 h
theorem j224_107_ok {xs : List Int32} {d : Nat} (hd : 6 ≤ d) {k43 : Option Nat → Int32 → Int32 → Int32 → xH → Option (Int32 × xH)} {k52 : Option Nat → Int32 → Int32 → Int32 → Int32 → xH → Option (Int32 × xH)} (hk43 : ∀ {u4 : Value} {u5 : Value} {u6 : Value} {o0 : Option Nat} {x1 : Int32} {x2 : Int32} {x3 : Int32} {h : xH} {r : (Int32 × xH)}, u4.category = 1 → u5.category = 1 → u6.category = 1 → k43 o0 x1 x2 x3 h = some r → xEv (xTa xs) d 224 (43, [xrv o0, .int x1, .int x2, .int x3, u4, u5, u6], [], h) (some (.int r.1), r.2)) (hk52 : ∀ {u5 : Value} {u6 : Value} {o0 : Option Nat} {x1 : Int32} {x2 : Int32} {x3 : Int32} {x4 : Int32} {h : xH} {r : (Int32 × xH)}, u5.category = 1 → u6.category = 1 → k52 o0 x1 x2 x3 x4 h = some r → xEv (xTa xs) d 224 (52, [xrv o0, .int x1, .int x2, .int x3, .int x4, u5, u6], [], h) (some (.int r.1), r.2)) {u6 : Value} {o0 : Option Nat} {x1 : Int32} {x2 : Int32} {x3 : Int32} {x4 : Int32} {x5 : Int32} {h : xH} {r : (Int32 × xH)} (hu6 : u6.category = 1) (hf : j224_107 k43 k52 o0 x1 x2 x3 x4 x5 h = some r) : xEv (xTa xs) d 224 (107, [xrv o0, .int x1, .int x2, .int x3, .int x4, .int x5, u6], [], h) (some (.int r.1), r.2) := by
  unfold j224_107 at hf
  refine ev_do i224_107 rfl ?_
  refine sh_goto (t := 170) i224_108 rfl ?_
  exact j224_170_ok hd hk43 hk52 hu6 hf
def j224_103 (k43 : Option Nat → Int32 → Int32 → Int32 → xH → Option (Int32 × xH)) (k52 : Option Nat → Int32 → Int32 → Int32 → Int32 → xH → Option (Int32 × xH)) (o0 : Option Nat) (x1 : Int32) (x2 : Int32) (x3 : Int32) (x4 : Int32) (x5 : Int32) (h : xH) : Option (Int32 × xH) := j224_170 k43 k52 o0 x1 x2 x3 x4 x5 1 h
theorem j224_103_ok {xs : List Int32} {d : Nat} (hd : 6 ≤ d) {k43 : Option Nat → Int32 → Int32 → Int32 → xH → Option (Int32 × xH)} {k52 : Option Nat → Int32 → Int32 → Int32 → Int32 → xH → Option (Int32 × xH)} (hk43 : ∀ {u4 : Value} {u5 : Value} {u6 : Value} {o0 : Option Nat} {x1 : Int32} {x2 : Int32} {x3 : Int32} {h : xH} {r : (Int32 × xH)}, u4.category = 1 → u5.category = 1 → u6.category = 1 → k43 o0 x1 x2 x3 h = some r → xEv (xTa xs) d 224 (43, [xrv o0, .int x1, .int x2, .int x3, u4, u5, u6], [], h) (some (.int r.1), r.2)) (hk52 : ∀ {u5 : Value} {u6 : Value} {o0 : Option Nat} {x1 : Int32} {x2 : Int32} {x3 : Int32} {x4 : Int32} {h : xH} {r : (Int32 × xH)}, u5.category = 1 → u6.category = 1 → k52 o0 x1 x2 x3 x4 h = some r → xEv (xTa xs) d 224 (52, [xrv o0, .int x1, .int x2, .int x3, .int x4, u5, u6], [], h) (some (.int r.1), r.2)) {u6 : Value} {o0 : Option Nat} {x1 : Int32} {x2 : Int32} {x3 : Int32} {x4 : Int32} {x5 : Int32} {h : xH} {r : (Int32 × xH)} (hu6 : u6.category = 1) (hf : j224_103 k43 k52 o0 x1 x2 x3 x4 x5 h = some r) : xEv (xTa xs) d 224 (103, [xrv o0, .int x1, .int x2, .int x3, .int x4, .int x5, u6], [], h) (some (.int r.1), r.2) := by
  unfold j224_103 at hf
  refine ev_do i224_103 rfl ?_
  refine sh_goto (t := 170) i224_104 rfl ?_
  exact j224_170_ok hd hk43 hk52 hu6 hf
def l224_52 (k43 : Option Nat → Int32 → Int32 → Int32 → xH → Option (Int32 × xH)) : Nat → Option Nat → Int32 → Int32 → Int32 → Int32 → xH → Option (Int32 × xH)
  | 0 => fun _ _ _ _ _ _ => none
  | n + 1 => fun o0 x1 x2 x3 x4 h => (xgR h o0 11 14).bind fun a_1 => (xaI h 13 a_1 x1).bind fun v_2 => (if v_2 ≤ x4 then k43 o0 x1 x2 (x3 + 1) h else (if x3 = 3 then (xgR h o0 11 16).bind fun a_5 => (xaI h 13 a_5 ((24 * x1) + x4)).bind fun v_6 => (if v_6 = 7 then (if x2 = (-1) then j224_103 k43 (l224_52 k43 n) o0 x1 x2 x3 x4 ((24 * x1) + x4) h else (xcv h o0 11).bind fun _ => (fn160 o0 x2 h).bind fun r_9 => (if r_9.1 = (-1) then j224_103 k43 (l224_52 k43 n) o0 x1 x2 x3 x4 ((24 * x1) + x4) r_9.2 else j224_107 k43 (l224_52 k43 n) o0 x1 x2 x3 x4 ((24 * x1) + x4) r_9.2)) else j224_107 k43 (l224_52 k43 n) o0 x1 x2 x3 x4 ((24 * x1) + x4) h) else (if x3 = 4 then (xgR h o0 11 16).bind fun a_13 => (xaI h 13 a_13 ((24 * x1) + x4)).bind fun v_14 => (if v_14 = 2 then (xcv h o0 11).bind fun _ => (fn220 o0 x1 ((24 * x1) + x4) h).bind fun r_16 => (if r_16.1 = 0 then j224_170 k43 (l224_52 k43 n) o0 x1 x2 x3 x4 ((24 * x1) + x4) 1 r_16.2 else j224_141 k43 (l224_52 k43 n) o0 x1 x2 x3 x4 ((24 * x1) + x4) r_16.2) else j224_141 k43 (l224_52 k43 n) o0 x1 x2 x3 x4 ((24 * x1) + x4) h) else (xgR h o0 11 16).bind fun a_19 => (xaI h 13 a_19 ((24 * x1) + x4)).bind fun v_20 => (if v_20 = 3 then (xgR h o0 11 6).bind fun a_22 => (xaI h 14 a_22 x1).bind fun v_23 => (if v_23 = 0 then j224_170 k43 (l224_52 k43 n) o0 x1 x2 x3 x4 ((24 * x1) + x4) 1 h else j224_169 k43 (l224_52 k43 n) o0 x1 x2 x3 x4 ((24 * x1) + x4) h) else j224_169 k43 (l224_52 k43 n) o0 x1 x2 x3 x4 ((24 * x1) + x4) h))))
theorem l224_52_ok {xs : List Int32} {d : Nat} (hd : 6 ≤ d) {k43 : Option Nat → Int32 → Int32 → Int32 → xH → Option (Int32 × xH)} (hk43 : ∀ {u4 : Value} {u5 : Value} {u6 : Value} {o0 : Option Nat} {x1 : Int32} {x2 : Int32} {x3 : Int32} {h : xH} {r : (Int32 × xH)}, u4.category = 1 → u5.category = 1 → u6.category = 1 → k43 o0 x1 x2 x3 h = some r → xEv (xTa xs) d 224 (43, [xrv o0, .int x1, .int x2, .int x3, u4, u5, u6], [], h) (some (.int r.1), r.2)) : ∀ (n : Nat) {u5 : Value} {u6 : Value} {o0 : Option Nat} {x1 : Int32} {x2 : Int32} {x3 : Int32} {x4 : Int32} {h : xH} {r : (Int32 × xH)} (hu5 : u5.category = 1) (hu6 : u6.category = 1), l224_52 k43 n o0 x1 x2 x3 x4 h = some r → xEv (xTa xs) d 224 (52, [xrv o0, .int x1, .int x2, .int x3, .int x4, u5, u6], [], h) (some (.int r.1), r.2) := by
  intro n
  induction n with
  | zero => intros; rename_i hf; cases hf
  | succ n ih =>
    intro u5 u6 o0 x1 x2 x3 x4 h r hu5 hu6 hf
    replace hf : ((xgR h o0 11 14).bind fun a_1 => (xaI h 13 a_1 x1).bind fun v_2 => (if v_2 ≤ x4 then k43 o0 x1 x2 (x3 + 1) h else (if x3 = 3 then (xgR h o0 11 16).bind fun a_5 => (xaI h 13 a_5 ((24 * x1) + x4)).bind fun v_6 => (if v_6 = 7 then (if x2 = (-1) then j224_103 k43 (l224_52 k43 n) o0 x1 x2 x3 x4 ((24 * x1) + x4) h else (xcv h o0 11).bind fun _ => (fn160 o0 x2 h).bind fun r_9 => (if r_9.1 = (-1) then j224_103 k43 (l224_52 k43 n) o0 x1 x2 x3 x4 ((24 * x1) + x4) r_9.2 else j224_107 k43 (l224_52 k43 n) o0 x1 x2 x3 x4 ((24 * x1) + x4) r_9.2)) else j224_107 k43 (l224_52 k43 n) o0 x1 x2 x3 x4 ((24 * x1) + x4) h) else (if x3 = 4 then (xgR h o0 11 16).bind fun a_13 => (xaI h 13 a_13 ((24 * x1) + x4)).bind fun v_14 => (if v_14 = 2 then (xcv h o0 11).bind fun _ => (fn220 o0 x1 ((24 * x1) + x4) h).bind fun r_16 => (if r_16.1 = 0 then j224_170 k43 (l224_52 k43 n) o0 x1 x2 x3 x4 ((24 * x1) + x4) 1 r_16.2 else j224_141 k43 (l224_52 k43 n) o0 x1 x2 x3 x4 ((24 * x1) + x4) r_16.2) else j224_141 k43 (l224_52 k43 n) o0 x1 x2 x3 x4 ((24 * x1) + x4) h) else (xgR h o0 11 16).bind fun a_19 => (xaI h 13 a_19 ((24 * x1) + x4)).bind fun v_20 => (if v_20 = 3 then (xgR h o0 11 6).bind fun a_22 => (xaI h 14 a_22 x1).bind fun v_23 => (if v_23 = 0 then j224_170 k43 (l224_52 k43 n) o0 x1 x2 x3 x4 ((24 * x1) + x4) 1 h else j224_169 k43 (l224_52 k43 n) o0 x1 x2 x3 x4 ((24 * x1) + x4) h) else j224_169 k43 (l224_52 k43 n) o0 x1 x2 x3 x4 ((24 * x1) + x4) h))))) = some r := hf
    refine ev_do i224_52 rfl ?_
    refine sh_aload (i' := 0) (n := 1) i224_54 (Or.inr ⟨rfl, by decide⟩) rfl ?_
    obtain ⟨a_1, ea_1, hf⟩ := x_bind hf
    refine sh_getR i224_55 f224_47 ea_1 ?_
    refine ev_do i224_58 rfl ?_
    obtain ⟨v_2, ev_2, hf⟩ := x_bind hf
    refine sh_aldI (tg := 13) i224_59 (Or.inl ⟨rfl, rfl⟩) ev_2 ?_
    refine ev_icmp (t := 195) i224_60 rfl (fun c_3 => ?_) (fun c_3 => ?_)
    · replace hf := x_pos (show v_2 ≤ x4 from c_3) hf
      refine sh_inc (i' := 3) i224_195 rfl (xokst_of (Nat.le_of_ble_eq_true rfl) rfl) rfl ?_
      refine sh_goto (t := 43) i224_198 rfl ?_
      exact hk43 rfl hu5 hu6 hf
    · replace hf := x_neg (show ¬ v_2 ≤ x4 from c_3) hf
      refine ev_do i224_63 rfl ?_
      refine ev_do i224_65 rfl ?_
      refine ev_do i224_66 rfl ?_
      refine ev_do i224_67 rfl ?_
      refine ev_do i224_69 rfl ?_
      refine sh_istore (i' := 5) (n := 2) i224_70 (Or.inl rfl) (xokst_of (Nat.le_of_ble_eq_true rfl) rfl) ?_
      refine ev_do i224_72 rfl ?_
      refine ev_do i224_73 rfl ?_
      refine ev_icmp (t := 111) i224_74 rfl (fun c_4 => ?_) (fun c_4 => ?_)
      · replace hf := x_neg (show ¬ x3 = 3 from c_4) hf
        refine ev_do i224_111 rfl ?_
        refine ev_do i224_112 rfl ?_
        refine ev_icmp (t := 145) i224_113 rfl (fun c_12 => ?_) (fun c_12 => ?_)
        · replace hf := x_neg (show ¬ x3 = 4 from c_12) hf
          refine sh_aload (i' := 0) (n := 1) i224_145 (Or.inr ⟨rfl, by decide⟩) rfl ?_
          obtain ⟨a_19, ea_19, hf⟩ := x_bind hf
          refine sh_getR i224_146 f224_53 ea_19 ?_
          refine ev_do i224_149 rfl ?_
          obtain ⟨v_20, ev_20, hf⟩ := x_bind hf
          refine sh_aldI (tg := 13) i224_151 (Or.inl ⟨rfl, rfl⟩) ev_20 ?_
          refine ev_do i224_152 rfl ?_
          refine ev_icmp (t := 169) i224_153 rfl (fun c_21 => ?_) (fun c_21 => ?_)
          · replace hf := x_neg (show ¬ v_20 = 3 from c_21) hf
            exact j224_169_ok hd hk43 ih hu6 hf
          · replace hf := x_pos (show v_20 = 3 from Decidable.byContradiction (fun h9 => c_21 h9)) hf
            refine sh_aload (i' := 0) (n := 1) i224_156 (Or.inr ⟨rfl, by decide⟩) rfl ?_
            obtain ⟨a_22, ea_22, hf⟩ := x_bind hf
            refine sh_getR i224_157 f224_23 ea_22 ?_
            refine ev_do i224_160 rfl ?_
            obtain ⟨v_23, ev_23, hf⟩ := x_bind hf
            refine sh_aldI (tg := 14) i224_161 (Or.inr (Or.inr ⟨rfl, rfl⟩)) ev_23 ?_
            refine ev_if (t := 169) i224_162 rfl (fun c_24 => ?_) (fun c_24 => ?_)
            · replace hf := x_neg (show ¬ v_23 = 0 from c_24) hf
              exact j224_169_ok hd hk43 ih hu6 hf
            · replace hf := x_pos (show v_23 = 0 from Decidable.byContradiction (fun h9 => c_24 h9)) hf
              refine ev_do i224_165 rfl ?_
              refine sh_goto (t := 170) i224_166 rfl ?_
              exact j224_170_ok hd hk43 ih hu6 hf
        · replace hf := x_pos (show x3 = 4 from Decidable.byContradiction (fun h9 => c_12 h9)) hf
          refine sh_aload (i' := 0) (n := 1) i224_116 (Or.inr ⟨rfl, by decide⟩) rfl ?_
          obtain ⟨a_13, ea_13, hf⟩ := x_bind hf
          refine sh_getR i224_117 f224_53 ea_13 ?_
          refine ev_do i224_120 rfl ?_
          obtain ⟨v_14, ev_14, hf⟩ := x_bind hf
          refine sh_aldI (tg := 13) i224_122 (Or.inl ⟨rfl, rfl⟩) ev_14 ?_
          refine ev_do i224_123 rfl ?_
          refine ev_icmp (t := 141) i224_124 rfl (fun c_15 => ?_) (fun c_15 => ?_)
          · replace hf := x_neg (show ¬ v_14 = 2 from c_15) hf
            exact j224_141_ok hd hk43 ih hu6 hf
          · replace hf := x_pos (show v_14 = 2 from Decidable.byContradiction (fun h9 => c_15 h9)) hf
            refine sh_aload (i' := 0) (n := 1) i224_127 (Or.inr ⟨rfl, by decide⟩) rfl ?_
            refine ev_do i224_128 rfl ?_
            refine ev_do i224_129 rfl ?_
            obtain ⟨_, eu_18, hf⟩ := x_bind hf
            obtain ⟨r_16, er_16, hf⟩ := x_bind hf
            refine sh_inv (as := [.int ((24 * x1) + x4), .int x1]) (z := (some (.int r_16.1), r_16.2)) i224_131 v224_468 (Or.inl ⟨by decide, rfl⟩) m220 rfl (Nat.le_of_ble_eq_true rfl) eu_18 (fn220_call (by omega) er_16) ?_
            refine ev_if (t := 141) i224_134 rfl (fun c_17 => ?_) (fun c_17 => ?_)
            · replace hf := x_neg (show ¬ r_16.1 = 0 from c_17) hf
              exact j224_141_ok hd hk43 ih hu6 hf
            · replace hf := x_pos (show r_16.1 = 0 from Decidable.byContradiction (fun h9 => c_17 h9)) hf
              refine ev_do i224_137 rfl ?_
              refine sh_goto (t := 170) i224_138 rfl ?_
              exact j224_170_ok hd hk43 ih hu6 hf
      · replace hf := x_pos (show x3 = 3 from Decidable.byContradiction (fun h9 => c_4 h9)) hf
        refine sh_aload (i' := 0) (n := 1) i224_77 (Or.inr ⟨rfl, by decide⟩) rfl ?_
        obtain ⟨a_5, ea_5, hf⟩ := x_bind hf
        refine sh_getR i224_78 f224_53 ea_5 ?_
        refine ev_do i224_81 rfl ?_
        obtain ⟨v_6, ev_6, hf⟩ := x_bind hf
        refine sh_aldI (tg := 13) i224_83 (Or.inl ⟨rfl, rfl⟩) ev_6 ?_
        refine ev_do i224_84 rfl ?_
        refine ev_icmp (t := 107) i224_86 rfl (fun c_7 => ?_) (fun c_7 => ?_)
        · replace hf := x_neg (show ¬ v_6 = 7 from c_7) hf
          exact j224_107_ok hd hk43 ih hu6 hf
        · replace hf := x_pos (show v_6 = 7 from Decidable.byContradiction (fun h9 => c_7 h9)) hf
          refine ev_do i224_89 rfl ?_
          refine ev_do i224_90 rfl ?_
          refine ev_icmp (t := 103) i224_91 rfl (fun c_8 => ?_) (fun c_8 => ?_)
          · replace hf := x_pos (show x2 = (-1) from c_8) hf
            exact j224_103_ok hd hk43 ih hu6 hf
          · replace hf := x_neg (show ¬ x2 = (-1) from c_8) hf
            refine sh_aload (i' := 0) (n := 1) i224_94 (Or.inr ⟨rfl, by decide⟩) rfl ?_
            refine ev_do i224_95 rfl ?_
            obtain ⟨_, eu_11, hf⟩ := x_bind hf
            obtain ⟨r_9, er_9, hf⟩ := x_bind hf
            refine sh_inv (as := [.int x2]) (z := (some (.int r_9.1), r_9.2)) i224_96 v224_353 (Or.inl ⟨by decide, rfl⟩) m160 rfl (Nat.le_of_ble_eq_true rfl) eu_11 (fn160_call (by omega) er_9) ?_
            refine ev_do i224_99 rfl ?_
            refine ev_icmp (t := 107) i224_100 rfl (fun c_10 => ?_) (fun c_10 => ?_)
            · replace hf := x_neg (show ¬ r_9.1 = (-1) from c_10) hf
              exact j224_107_ok hd hk43 ih hu6 hf
            · replace hf := x_pos (show r_9.1 = (-1) from Decidable.byContradiction (fun h9 => c_10 h9)) hf
              exact j224_103_ok hd hk43 ih hu6 hf
def l224_43  : Nat → Option Nat → Int32 → Int32 → Int32 → xH → Option (Int32 × xH)
  | 0 => fun _ _ _ _ _ => none
  | n + 1 => fun o0 x1 x2 x3 h => (if 6 ≤ x3 then l224_203 xFuel o0 x1 x2 0 h else l224_52 (l224_43 n) xFuel o0 x1 x2 x3 0 h)
theorem l224_43_ok {xs : List Int32} {d : Nat} (hd : 6 ≤ d) : ∀ (n : Nat) {u4 : Value} {u5 : Value} {u6 : Value} {o0 : Option Nat} {x1 : Int32} {x2 : Int32} {x3 : Int32} {h : xH} {r : (Int32 × xH)} (hu4 : u4.category = 1) (hu5 : u5.category = 1) (hu6 : u6.category = 1), l224_43 n o0 x1 x2 x3 h = some r → xEv (xTa xs) d 224 (43, [xrv o0, .int x1, .int x2, .int x3, u4, u5, u6], [], h) (some (.int r.1), r.2) := by
  intro n
  induction n with
  | zero => intros; rename_i hf; cases hf
  | succ n ih =>
    intro u4 u5 u6 o0 x1 x2 x3 h r hu4 hu5 hu6 hf
    replace hf : ((if 6 ≤ x3 then l224_203 xFuel o0 x1 x2 0 h else l224_52 (l224_43 n) xFuel o0 x1 x2 x3 0 h)) = some r := hf
    refine ev_do i224_43 rfl ?_
    refine ev_do i224_44 rfl ?_
    refine ev_icmp (t := 201) i224_46 rfl (fun c_1 => ?_) (fun c_1 => ?_)
    · replace hf := x_pos (show 6 ≤ x3 from c_1) hf
      refine ev_do i224_201 rfl ?_
      refine sh_istore (i' := 3) (n := 1) i224_202 (Or.inr ⟨rfl, by decide⟩) (xokst_of (Nat.le_of_ble_eq_true rfl) rfl) ?_
      exact l224_203_ok hd xFuel hu4 hu5 hu6 hf
    · replace hf := x_neg (show ¬ 6 ≤ x3 from c_1) hf
      refine ev_do i224_49 rfl ?_
      refine sh_istore (i' := 4) (n := 2) i224_50 (Or.inl rfl) (xokst_of (Nat.le_of_ble_eq_true rfl) rfl) ?_
      exact l224_52_ok hd ih xFuel hu5 hu6 hf
def j224_30  (o0 : Option Nat) (x1 : Int32) (h : xH) : Option (Int32 × xH) := (xcv h o0 11).bind fun _ => (fn222 o0 x1 h).bind fun h_1 => (xcv h_1 o0 11).bind fun _ => (fn156 o0 x1 h_1).bind fun r_2 => l224_43 xFuel o0 x1 r_2.1 3 r_2.2
theorem j224_30_ok {xs : List Int32} {d : Nat} (hd : 6 ≤ d) {u2 : Value} {u3 : Value} {u4 : Value} {u5 : Value} {u6 : Value} {o0 : Option Nat} {x1 : Int32} {h : xH} {r : (Int32 × xH)} (hu2 : u2.category = 1) (hu3 : u3.category = 1) (hu4 : u4.category = 1) (hu5 : u5.category = 1) (hu6 : u6.category = 1) (hf : j224_30 o0 x1 h = some r) : xEv (xTa xs) d 224 (30, [xrv o0, .int x1, u2, u3, u4, u5, u6], [], h) (some (.int r.1), r.2) := by
  unfold j224_30 at hf
  refine sh_aload (i' := 0) (n := 1) i224_30 (Or.inr ⟨rfl, by decide⟩) rfl ?_
  refine ev_do i224_31 rfl ?_
  obtain ⟨_, eu_4, hf⟩ := x_bind hf
  obtain ⟨h_1, eh_1, hf⟩ := x_bind hf
  refine sh_inv (as := [.int x1]) (z := (none, h_1)) i224_32 v224_465 (Or.inl ⟨by decide, rfl⟩) m222 rfl (Nat.le_of_ble_eq_true rfl) eu_4 (fn222_call (by omega) eh_1) ?_
  refine sh_aload (i' := 0) (n := 1) i224_35 (Or.inr ⟨rfl, by decide⟩) rfl ?_
  refine ev_do i224_36 rfl ?_
  obtain ⟨_, eu_3, hf⟩ := x_bind hf
  obtain ⟨r_2, er_2, hf⟩ := x_bind hf
  refine sh_inv (as := [.int x1]) (z := (some (.int r_2.1), r_2.2)) i224_37 v224_198 (Or.inl ⟨by decide, rfl⟩) m156 rfl (Nat.le_of_ble_eq_true rfl) eu_3 (fn156_call (by omega) er_2) ?_
  refine sh_istore (i' := 2) (n := 1) i224_40 (Or.inr ⟨rfl, by decide⟩) (xokst_of (Nat.le_of_ble_eq_true rfl) rfl) ?_
  refine ev_do i224_41 rfl ?_
  refine sh_istore (i' := 3) (n := 1) i224_42 (Or.inr ⟨rfl, by decide⟩) (xokst_of (Nat.le_of_ble_eq_true rfl) rfl) ?_
  exact l224_43_ok hd xFuel hu4 hu5 hu6 hf
def fn224 (o0 : Option Nat) (x1 : Int32) (h : xH) : Option (Int32 × xH) := (xcv h o0 11).bind fun _ => (fn148 o0 x1 h).bind fun r_1 => (if r_1.1 = 0 then some ((-1), r_1.2) else (xpF r_1.2 o0 11 73 .int (.int 0)).bind fun h_3 => (xcv h_3 o0 11).bind fun _ => (fn160 o0 x1 h_3).bind fun r_4 => (if r_4.1 = (-1) then (xcv r_4.2 o0 11).bind fun _ => (fn219 o0 1 0 r_4.2).bind fun h_6 => j224_30 o0 x1 h_6 else j224_30 o0 x1 r_4.2))
theorem fn224_call {xs : List Int32} {d : Nat} (hd : 7 ≤ d) {o0 : Option Nat} {x1 : Int32} {h : xH} {r : (Int32 × xH)} (hf : fn224 o0 x1 h = some r) : xCall (xTa xs) d 224 [xrv o0, .int x1] h (some (.int r.1), r.2) := by
  obtain ⟨d, rfl⟩ : ∃ d2, d = d2 + 1 := ⟨d - 1, by omega⟩
  replace hd : 6 ≤ d := by omega
  refine call_of2 (fl := [xrv o0, .int x1]) (Ls := [xrv o0, .int x1, .float 0, .float 0, .float 0, .float 0, .float 0]) m224 (by simp [xfl, xrv_cat, xc_i, xc_j, xc_a, xc_f]) (Nat.le_of_ble_eq_true rfl) rfl ?_
  unfold fn224 at hf
  refine sh_aload (i' := 0) (n := 1) i224_0 (Or.inr ⟨rfl, by decide⟩) rfl ?_
  refine ev_do i224_1 rfl ?_
  obtain ⟨_, eu_9, hf⟩ := x_bind hf
  obtain ⟨r_1, er_1, hf⟩ := x_bind hf
  refine sh_inv (as := [.int x1]) (z := (some (.int r_1.1), r_1.2)) i224_2 v224_161 (Or.inl ⟨by decide, rfl⟩) m148 rfl (Nat.le_of_ble_eq_true rfl) eu_9 (fn148_call (by omega) er_1) ?_
  refine ev_if (t := 10) i224_5 rfl (fun c_2 => ?_) (fun c_2 => ?_)
  · replace hf := x_neg (show ¬ r_1.1 = 0 from c_2) hf
    refine sh_aload (i' := 0) (n := 1) i224_10 (Or.inr ⟨rfl, by decide⟩) rfl ?_
    refine ev_do i224_11 rfl ?_
    obtain ⟨h_3, eh_3, hf⟩ := x_bind hf
    refine sh_put i224_12 f224_455 (by decide) rfl eh_3 ?_
    refine sh_aload (i' := 0) (n := 1) i224_15 (Or.inr ⟨rfl, by decide⟩) rfl ?_
    refine ev_do i224_16 rfl ?_
    obtain ⟨_, eu_8, hf⟩ := x_bind hf
    obtain ⟨r_4, er_4, hf⟩ := x_bind hf
    refine sh_inv (as := [.int x1]) (z := (some (.int r_4.1), r_4.2)) i224_17 v224_353 (Or.inl ⟨by decide, rfl⟩) m160 rfl (Nat.le_of_ble_eq_true rfl) eu_8 (fn160_call (by omega) er_4) ?_
    refine ev_do i224_20 rfl ?_
    refine ev_icmp (t := 30) i224_21 rfl (fun c_5 => ?_) (fun c_5 => ?_)
    · replace hf := x_neg (show ¬ r_4.1 = (-1) from c_5) hf
      exact j224_30_ok hd rfl rfl rfl rfl rfl hf
    · replace hf := x_pos (show r_4.1 = (-1) from Decidable.byContradiction (fun h9 => c_5 h9)) hf
      refine sh_aload (i' := 0) (n := 1) i224_24 (Or.inr ⟨rfl, by decide⟩) rfl ?_
      refine ev_do i224_25 rfl ?_
      refine ev_do i224_26 rfl ?_
      obtain ⟨_, eu_7, hf⟩ := x_bind hf
      obtain ⟨h_6, eh_6, hf⟩ := x_bind hf
      refine sh_inv (as := [.int 0, .int 1]) (z := (none, h_6)) i224_27 v224_462 (Or.inl ⟨by decide, rfl⟩) m219 rfl (Nat.le_of_ble_eq_true rfl) eu_7 (fn219_call (by omega) eh_6) ?_
      exact j224_30_ok hd rfl rfl rfl rfl rfl hf
  · replace hf := x_pos (show r_1.1 = 0 from Decidable.byContradiction (fun h9 => c_2 h9)) hf
    refine ev_do i224_8 rfl ?_
    obtain rfl := Option.some.inj hf
    exact sh_iret i224_9 m224 rfl rfl
end
section
def j225_46  (o0 : Option Nat) (x1 : Int32) (x2 : Int32) (s0 : Int32) (h : xH) : Option (Int32 × xH) := some (s0, h)
theorem j225_46_ok {xs : List Int32} {d : Nat} (hd : 2 ≤ d) {o0 : Option Nat} {x1 : Int32} {x2 : Int32} {s0 : Int32} {h : xH} {r : (Int32 × xH)} (hf : j225_46 o0 x1 x2 s0 h = some r) : xEv (xTa xs) d 225 (46, [xrv o0, .int x1, .int x2], [.int s0], h) (some (.int r.1), r.2) := by
  unfold j225_46 at hf
  obtain rfl := Option.some.inj hf
  exact sh_iret i225_46 m225 rfl rfl
def j225_45  (o0 : Option Nat) (x1 : Int32) (x2 : Int32) (h : xH) : Option (Int32 × xH) := j225_46 o0 x1 x2 (-1) h
theorem j225_45_ok {xs : List Int32} {d : Nat} (hd : 2 ≤ d) {o0 : Option Nat} {x1 : Int32} {x2 : Int32} {h : xH} {r : (Int32 × xH)} (hf : j225_45 o0 x1 x2 h = some r) : xEv (xTa xs) d 225 (45, [xrv o0, .int x1, .int x2], [], h) (some (.int r.1), r.2) := by
  unfold j225_45 at hf
  refine ev_do i225_45 rfl ?_
  exact j225_46_ok hd hf
def fn225 (o0 : Option Nat) (x1 : Int32) (x2 : Int32) (h : xH) : Option (Int32 × xH) := (xgI h o0 11 73).bind fun v_1 => (fn141 x1 0 (v_1 - 1) h).bind fun r_2 => (if r_2.1 = 0 then j225_45 o0 x1 x2 r_2.2 else (fn141 x2 0 1 r_2.2).bind fun r_4 => (if r_4.1 = 0 then j225_45 o0 x1 x2 r_4.2 else (if x2 = 0 then (xgR r_4.2 o0 11 71).bind fun a_7 => (xaI r_4.2 13 a_7 x1).bind fun v_8 => j225_46 o0 x1 x2 v_8 r_4.2 else (xgR r_4.2 o0 11 72).bind fun a_9 => (xaI r_4.2 13 a_9 x1).bind fun v_10 => j225_46 o0 x1 x2 v_10 r_4.2)))
theorem fn225_call {xs : List Int32} {d : Nat} (hd : 3 ≤ d) {o0 : Option Nat} {x1 : Int32} {x2 : Int32} {h : xH} {r : (Int32 × xH)} (hf : fn225 o0 x1 x2 h = some r) : xCall (xTa xs) d 225 [xrv o0, .int x1, .int x2] h (some (.int r.1), r.2) := by
  obtain ⟨d, rfl⟩ : ∃ d2, d = d2 + 1 := ⟨d - 1, by omega⟩
  replace hd : 2 ≤ d := by omega
  refine call_of2 (fl := [xrv o0, .int x1, .int x2]) (Ls := [xrv o0, .int x1, .int x2]) m225 (by simp [xfl, xrv_cat, xc_i, xc_j, xc_a, xc_f]) (Nat.le_of_ble_eq_true rfl) rfl ?_
  unfold fn225 at hf
  refine ev_do i225_0 rfl ?_
  refine ev_do i225_1 rfl ?_
  refine sh_aload (i' := 0) (n := 1) i225_2 (Or.inr ⟨rfl, by decide⟩) rfl ?_
  obtain ⟨v_1, ev_1, hf⟩ := x_bind hf
  refine sh_getI i225_3 f225_455 ev_1 ?_
  refine ev_do i225_6 rfl ?_
  refine ev_do i225_7 rfl ?_
  obtain ⟨r_2, er_2, hf⟩ := x_bind hf
  refine ev_sta (as := [.int (v_1 - 1), .int 0, .int x1]) (z := (some (.int r_2.1), r_2.2)) i225_8 v225_154 (Or.inl rfl) m141 rfl (Nat.le_of_ble_eq_true rfl) (fn141_call (by omega) er_2) ?_
  refine ev_if (t := 45) i225_11 rfl (fun c_3 => ?_) (fun c_3 => ?_)
  · replace hf := x_pos (show r_2.1 = 0 from c_3) hf
    exact j225_45_ok hd hf
  · replace hf := x_neg (show ¬ r_2.1 = 0 from c_3) hf
    refine ev_do i225_14 rfl ?_
    refine ev_do i225_15 rfl ?_
    refine ev_do i225_16 rfl ?_
    obtain ⟨r_4, er_4, hf⟩ := x_bind hf
    refine ev_sta (as := [.int 1, .int 0, .int x2]) (z := (some (.int r_4.1), r_4.2)) i225_17 v225_154 (Or.inl rfl) m141 rfl (Nat.le_of_ble_eq_true rfl) (fn141_call (by omega) er_4) ?_
    refine ev_if (t := 45) i225_20 rfl (fun c_5 => ?_) (fun c_5 => ?_)
    · replace hf := x_pos (show r_4.1 = 0 from c_5) hf
      exact j225_45_ok hd hf
    · replace hf := x_neg (show ¬ r_4.1 = 0 from c_5) hf
      refine ev_do i225_23 rfl ?_
      refine ev_if (t := 36) i225_24 rfl (fun c_6 => ?_) (fun c_6 => ?_)
      · replace hf := x_neg (show ¬ x2 = 0 from c_6) hf
        refine sh_aload (i' := 0) (n := 1) i225_36 (Or.inr ⟨rfl, by decide⟩) rfl ?_
        obtain ⟨a_9, ea_9, hf⟩ := x_bind hf
        refine sh_getR i225_37 f225_143 ea_9 ?_
        refine ev_do i225_40 rfl ?_
        obtain ⟨v_10, ev_10, hf⟩ := x_bind hf
        refine sh_aldI (tg := 13) i225_41 (Or.inl ⟨rfl, rfl⟩) ev_10 ?_
        refine sh_goto (t := 46) i225_42 rfl ?_
        exact j225_46_ok hd hf
      · replace hf := x_pos (show x2 = 0 from Decidable.byContradiction (fun h9 => c_6 h9)) hf
        refine sh_aload (i' := 0) (n := 1) i225_27 (Or.inr ⟨rfl, by decide⟩) rfl ?_
        obtain ⟨a_7, ea_7, hf⟩ := x_bind hf
        refine sh_getR i225_28 f225_140 ea_7 ?_
        refine ev_do i225_31 rfl ?_
        obtain ⟨v_8, ev_8, hf⟩ := x_bind hf
        refine sh_aldI (tg := 13) i225_32 (Or.inl ⟨rfl, rfl⟩) ev_8 ?_
        refine sh_goto (t := 46) i225_33 rfl ?_
        exact j225_46_ok hd hf
end
section
def j226_101  (o0 : Option Nat) (x1 : Int32) (x2 : Int32) (x3 : Int32) (x4 : Int32) (s0 : Int32) (h : xH) : Option (Int32 × xH) := some (s0, h)
theorem j226_101_ok {xs : List Int32} {d : Nat} (hd : 1 ≤ d) {o0 : Option Nat} {x1 : Int32} {x2 : Int32} {x3 : Int32} {x4 : Int32} {s0 : Int32} {h : xH} {r : (Int32 × xH)} (hf : j226_101 o0 x1 x2 x3 x4 s0 h = some r) : xEv (xTa xs) d 226 (101, [xrv o0, .int x1, .int x2, .int x3, .int x4], [.int s0], h) (some (.int r.1), r.2) := by
  unfold j226_101 at hf
  obtain rfl := Option.some.inj hf
  exact sh_iret i226_101 m226 rfl rfl
def j226_51 (k7 : Option Nat → Int32 → Int32 → Int32 → Int32 → xH → Option (Int32 × xH)) (o0 : Option Nat) (x1 : Int32) (x2 : Int32) (x3 : Int32) (x4 : Int32) (s0 : Int32) (s1 : Int32) (h : xH) : Option (Int32 × xH) := k7 o0 x1 x2 (s0 + s1) (x4 + 1) h
theorem j226_51_ok {xs : List Int32} {d : Nat} (hd : 1 ≤ d) {k7 : Option Nat → Int32 → Int32 → Int32 → Int32 → xH → Option (Int32 × xH)} (hk7 : ∀ {o0 : Option Nat} {x1 : Int32} {x2 : Int32} {x3 : Int32} {x4 : Int32} {h : xH} {r : (Int32 × xH)}, k7 o0 x1 x2 x3 x4 h = some r → xEv (xTa xs) d 226 (7, [xrv o0, .int x1, .int x2, .int x3, .int x4], [], h) (some (.int r.1), r.2)) {o0 : Option Nat} {x1 : Int32} {x2 : Int32} {x3 : Int32} {x4 : Int32} {s0 : Int32} {s1 : Int32} {h : xH} {r : (Int32 × xH)} (hf : j226_51 k7 o0 x1 x2 x3 x4 s0 s1 h = some r) : xEv (xTa xs) d 226 (51, [xrv o0, .int x1, .int x2, .int x3, .int x4], [.int s1, .int s0], h) (some (.int r.1), r.2) := by
  unfold j226_51 at hf
  refine ev_do i226_51 rfl ?_
  refine sh_istore (i' := 3) (n := 1) i226_52 (Or.inr ⟨rfl, by decide⟩) (xokst_of (Nat.le_of_ble_eq_true rfl) rfl) ?_
  refine sh_inc (i' := 4) i226_53 rfl (xokst_of (Nat.le_of_ble_eq_true rfl) rfl) rfl ?_
  refine sh_goto (t := 7) i226_56 rfl ?_
  exact hk7 hf
def j226_32 (k7 : Option Nat → Int32 → Int32 → Int32 → Int32 → xH → Option (Int32 × xH)) (o0 : Option Nat) (x1 : Int32) (x2 : Int32) (x3 : Int32) (x4 : Int32) (s0 : Int32) (s1 : Int32) (h : xH) : Option (Int32 × xH) := (xgR h o0 11 13).bind fun a_1 => (xaI h 13 a_1 x4).bind fun v_2 => (if v_2 = (-1) then j226_51 k7 o0 x1 (s0 + s1) x3 x4 x3 0 h else j226_51 k7 o0 x1 (s0 + s1) x3 x4 x3 1 h)
theorem j226_32_ok {xs : List Int32} {d : Nat} (hd : 1 ≤ d) {k7 : Option Nat → Int32 → Int32 → Int32 → Int32 → xH → Option (Int32 × xH)} (hk7 : ∀ {o0 : Option Nat} {x1 : Int32} {x2 : Int32} {x3 : Int32} {x4 : Int32} {h : xH} {r : (Int32 × xH)}, k7 o0 x1 x2 x3 x4 h = some r → xEv (xTa xs) d 226 (7, [xrv o0, .int x1, .int x2, .int x3, .int x4], [], h) (some (.int r.1), r.2)) {o0 : Option Nat} {x1 : Int32} {x2 : Int32} {x3 : Int32} {x4 : Int32} {s0 : Int32} {s1 : Int32} {h : xH} {r : (Int32 × xH)} (hf : j226_32 k7 o0 x1 x2 x3 x4 s0 s1 h = some r) : xEv (xTa xs) d 226 (32, [xrv o0, .int x1, .int x2, .int x3, .int x4], [.int s1, .int s0], h) (some (.int r.1), r.2) := by
  unfold j226_32 at hf
  refine ev_do i226_32 rfl ?_
  refine sh_istore (i' := 2) (n := 1) i226_33 (Or.inr ⟨rfl, by decide⟩) (xokst_of (Nat.le_of_ble_eq_true rfl) rfl) ?_
  refine ev_do i226_34 rfl ?_
  refine sh_aload (i' := 0) (n := 1) i226_35 (Or.inr ⟨rfl, by decide⟩) rfl ?_
  obtain ⟨a_1, ea_1, hf⟩ := x_bind hf
  refine sh_getR i226_36 f226_44 ea_1 ?_
  refine ev_do i226_39 rfl ?_
  obtain ⟨v_2, ev_2, hf⟩ := x_bind hf
  refine sh_aldI (tg := 13) i226_41 (Or.inl ⟨rfl, rfl⟩) ev_2 ?_
  refine ev_do i226_42 rfl ?_
  refine ev_icmp (t := 50) i226_43 rfl (fun c_3 => ?_) (fun c_3 => ?_)
  · replace hf := x_neg (show ¬ v_2 = (-1) from c_3) hf
    refine ev_do i226_50 rfl ?_
    exact j226_51_ok hd hk7 hf
  · replace hf := x_pos (show v_2 = (-1) from Decidable.byContradiction (fun h9 => c_3 h9)) hf
    refine ev_do i226_46 rfl ?_
    refine sh_goto (t := 51) i226_47 rfl ?_
    exact j226_51_ok hd hk7 hf
def l226_7  : Nat → Option Nat → Int32 → Int32 → Int32 → Int32 → xH → Option (Int32 × xH)
  | 0 => fun _ _ _ _ _ _ => none
  | n + 1 => fun o0 x1 x2 x3 x4 h => (xgI h o0 11 2).bind fun v_1 => (if v_1 ≤ x4 then (if x1 = 0 then (xgI h o0 11 2).bind fun v_4 => j226_101 o0 x1 x2 x3 x4 v_4 h else (if x1 = 1 then j226_101 o0 x1 x2 x3 x4 x2 h else (if x1 = 2 then (xgI h o0 11 1).bind fun v_7 => j226_101 o0 x1 x2 x3 x4 v_7 h else (if x1 = 3 then j226_101 o0 x1 x2 x3 x4 x3 h else j226_101 o0 x1 x2 x3 x4 (-1) h)))) else (xgR h o0 11 3).bind fun a_9 => (xaI h 14 a_9 x4).bind fun v_10 => (if v_10 = 0 then j226_32 (l226_7 n) o0 x1 x2 x3 x4 x2 0 h else j226_32 (l226_7 n) o0 x1 x2 x3 x4 x2 1 h))
theorem l226_7_ok {xs : List Int32} {d : Nat} (hd : 1 ≤ d) : ∀ (n : Nat) {o0 : Option Nat} {x1 : Int32} {x2 : Int32} {x3 : Int32} {x4 : Int32} {h : xH} {r : (Int32 × xH)}, l226_7 n o0 x1 x2 x3 x4 h = some r → xEv (xTa xs) d 226 (7, [xrv o0, .int x1, .int x2, .int x3, .int x4], [], h) (some (.int r.1), r.2) := by
  intro n
  induction n with
  | zero => intros; rename_i hf; cases hf
  | succ n ih =>
    intro o0 x1 x2 x3 x4 h r hf
    replace hf : ((xgI h o0 11 2).bind fun v_1 => (if v_1 ≤ x4 then (if x1 = 0 then (xgI h o0 11 2).bind fun v_4 => j226_101 o0 x1 x2 x3 x4 v_4 h else (if x1 = 1 then j226_101 o0 x1 x2 x3 x4 x2 h else (if x1 = 2 then (xgI h o0 11 1).bind fun v_7 => j226_101 o0 x1 x2 x3 x4 v_7 h else (if x1 = 3 then j226_101 o0 x1 x2 x3 x4 x3 h else j226_101 o0 x1 x2 x3 x4 (-1) h)))) else (xgR h o0 11 3).bind fun a_9 => (xaI h 14 a_9 x4).bind fun v_10 => (if v_10 = 0 then j226_32 (l226_7 n) o0 x1 x2 x3 x4 x2 0 h else j226_32 (l226_7 n) o0 x1 x2 x3 x4 x2 1 h))) = some r := hf
    refine ev_do i226_7 rfl ?_
    refine sh_aload (i' := 0) (n := 1) i226_9 (Or.inr ⟨rfl, by decide⟩) rfl ?_
    obtain ⟨v_1, ev_1, hf⟩ := x_bind hf
    refine sh_getI i226_10 f226_158 ev_1 ?_
    refine ev_icmp (t := 59) i226_13 rfl (fun c_2 => ?_) (fun c_2 => ?_)
    · replace hf := x_pos (show v_1 ≤ x4 from c_2) hf
      refine ev_do i226_59 rfl ?_
      refine ev_if (t := 70) i226_60 rfl (fun c_3 => ?_) (fun c_3 => ?_)
      · replace hf := x_neg (show ¬ x1 = 0 from c_3) hf
        refine ev_do i226_70 rfl ?_
        refine ev_do i226_71 rfl ?_
        refine ev_icmp (t := 79) i226_72 rfl (fun c_5 => ?_) (fun c_5 => ?_)
        · replace hf := x_neg (show ¬ x1 = 1 from c_5) hf
          refine ev_do i226_79 rfl ?_
          refine ev_do i226_80 rfl ?_
          refine ev_icmp (t := 91) i226_81 rfl (fun c_6 => ?_) (fun c_6 => ?_)
          · replace hf := x_neg (show ¬ x1 = 2 from c_6) hf
            refine ev_do i226_91 rfl ?_
            refine ev_do i226_92 rfl ?_
            refine ev_icmp (t := 100) i226_93 rfl (fun c_8 => ?_) (fun c_8 => ?_)
            · replace hf := x_neg (show ¬ x1 = 3 from c_8) hf
              refine ev_do i226_100 rfl ?_
              exact j226_101_ok hd hf
            · replace hf := x_pos (show x1 = 3 from Decidable.byContradiction (fun h9 => c_8 h9)) hf
              refine ev_do i226_96 rfl ?_
              refine sh_goto (t := 101) i226_97 rfl ?_
              exact j226_101_ok hd hf
          · replace hf := x_pos (show x1 = 2 from Decidable.byContradiction (fun h9 => c_6 h9)) hf
            refine sh_aload (i' := 0) (n := 1) i226_84 (Or.inr ⟨rfl, by decide⟩) rfl ?_
            obtain ⟨v_7, ev_7, hf⟩ := x_bind hf
            refine sh_getI i226_85 f226_146 ev_7 ?_
            refine sh_goto (t := 101) i226_88 rfl ?_
            exact j226_101_ok hd hf
        · replace hf := x_pos (show x1 = 1 from Decidable.byContradiction (fun h9 => c_5 h9)) hf
          refine ev_do i226_75 rfl ?_
          refine sh_goto (t := 101) i226_76 rfl ?_
          exact j226_101_ok hd hf
      · replace hf := x_pos (show x1 = 0 from Decidable.byContradiction (fun h9 => c_3 h9)) hf
        refine sh_aload (i' := 0) (n := 1) i226_63 (Or.inr ⟨rfl, by decide⟩) rfl ?_
        obtain ⟨v_4, ev_4, hf⟩ := x_bind hf
        refine sh_getI i226_64 f226_158 ev_4 ?_
        refine sh_goto (t := 101) i226_67 rfl ?_
        exact j226_101_ok hd hf
    · replace hf := x_neg (show ¬ v_1 ≤ x4 from c_2) hf
      refine ev_do i226_16 rfl ?_
      refine sh_aload (i' := 0) (n := 1) i226_17 (Or.inr ⟨rfl, by decide⟩) rfl ?_
      obtain ⟨a_9, ea_9, hf⟩ := x_bind hf
      refine sh_getR i226_18 f226_13 ea_9 ?_
      refine ev_do i226_21 rfl ?_
      obtain ⟨v_10, ev_10, hf⟩ := x_bind hf
      refine sh_aldI (tg := 14) i226_23 (Or.inr (Or.inr ⟨rfl, rfl⟩)) ev_10 ?_
      refine ev_if (t := 31) i226_24 rfl (fun c_11 => ?_) (fun c_11 => ?_)
      · replace hf := x_pos (show v_10 = 0 from c_11) hf
        refine ev_do i226_31 rfl ?_
        exact j226_32_ok hd ih hf
      · replace hf := x_neg (show ¬ v_10 = 0 from c_11) hf
        refine ev_do i226_27 rfl ?_
        refine sh_goto (t := 32) i226_28 rfl ?_
        exact j226_32_ok hd ih hf
def fn226 (o0 : Option Nat) (x1 : Int32) (h : xH) : Option (Int32 × xH) := l226_7 xFuel o0 x1 0 0 0 h
theorem fn226_call {xs : List Int32} {d : Nat} (hd : 2 ≤ d) {o0 : Option Nat} {x1 : Int32} {h : xH} {r : (Int32 × xH)} (hf : fn226 o0 x1 h = some r) : xCall (xTa xs) d 226 [xrv o0, .int x1] h (some (.int r.1), r.2) := by
  obtain ⟨d, rfl⟩ : ∃ d2, d = d2 + 1 := ⟨d - 1, by omega⟩
  replace hd : 1 ≤ d := by omega
  refine call_of2 (fl := [xrv o0, .int x1]) (Ls := [xrv o0, .int x1, .float 0, .float 0, .float 0]) m226 (by simp [xfl, xrv_cat, xc_i, xc_j, xc_a, xc_f]) (Nat.le_of_ble_eq_true rfl) rfl ?_
  unfold fn226 at hf
  refine ev_do i226_0 rfl ?_
  refine sh_istore (i' := 2) (n := 1) i226_1 (Or.inr ⟨rfl, by decide⟩) (xokst_of (Nat.le_of_ble_eq_true rfl) rfl) ?_
  refine ev_do i226_2 rfl ?_
  refine sh_istore (i' := 3) (n := 1) i226_3 (Or.inr ⟨rfl, by decide⟩) (xokst_of (Nat.le_of_ble_eq_true rfl) rfl) ?_
  refine ev_do i226_4 rfl ?_
  refine sh_istore (i' := 4) (n := 2) i226_5 (Or.inl rfl) (xokst_of (Nat.le_of_ble_eq_true rfl) rfl) ?_
  exact l226_7_ok hd xFuel hf
end
section
def j234_724 (xs : List Int32) (k18 : Option Nat → Option Nat → Int32 → xH → Option (Int32 × xH)) (o1 : Option Nat) (o2 : Option Nat) (x3 : Int32) (h : xH) : Option (Int32 × xH) := k18 o1 o2 (x3 + 6) h
theorem j234_724_ok {xs : List Int32} {d : Nat} (hd : 69 ≤ d) {k18 : Option Nat → Option Nat → Int32 → xH → Option (Int32 × xH)} (hk18 : ∀ {o1 : Option Nat} {o2 : Option Nat} {x3 : Int32} {h : xH} {r : (Int32 × xH)}, k18 o1 o2 x3 h = some r → xEv (xTa xs) d 234 (18, [.retAddr 0, xrv o1, xrv o2, .int x3], [], h) (some (.int r.1), r.2)) {o1 : Option Nat} {o2 : Option Nat} {x3 : Int32} {h : xH} {r : (Int32 × xH)} (hf : j234_724 xs k18 o1 o2 x3 h = some r) : xEv (xTa xs) d 234 (724, [.retAddr 0, xrv o1, xrv o2, .int x3], [], h) (some (.int r.1), r.2) := by
  unfold j234_724 at hf
  refine sh_inc (i' := 3) i234_724 rfl (xokst_of (Nat.le_of_ble_eq_true rfl) (xrv_cat (o2))) rfl ?_
  refine sh_goto (t := 18) i234_727 rfl ?_
  exact hk18 hf
def j234_278 (xs : List Int32) (k18 : Option Nat → Option Nat → Int32 → xH → Option (Int32 × xH)) (o1 : Option Nat) (o2 : Option Nat) (x3 : Int32) (s0 : Int32) (s1 : Option Nat) (s2 : Int32) (s3 : Int32) (h : xH) : Option (Int32 × xH) := (xcv h s1 11).bind fun _ => (fn154 s1 s2 s3 h).bind fun r_1 => (if s0 = r_1.1 then j234_724 xs k18 o1 o2 x3 r_1.2 else some (0, r_1.2))
theorem j234_278_ok {xs : List Int32} {d : Nat} (hd : 69 ≤ d) {k18 : Option Nat → Option Nat → Int32 → xH → Option (Int32 × xH)} (hk18 : ∀ {o1 : Option Nat} {o2 : Option Nat} {x3 : Int32} {h : xH} {r : (Int32 × xH)}, k18 o1 o2 x3 h = some r → xEv (xTa xs) d 234 (18, [.retAddr 0, xrv o1, xrv o2, .int x3], [], h) (some (.int r.1), r.2)) {o1 : Option Nat} {o2 : Option Nat} {x3 : Int32} {s0 : Int32} {s1 : Option Nat} {s2 : Int32} {s3 : Int32} {h : xH} {r : (Int32 × xH)} (hf : j234_278 xs k18 o1 o2 x3 s0 s1 s2 s3 h = some r) : xEv (xTa xs) d 234 (278, [.retAddr 0, xrv o1, xrv o2, .int x3], [.int s3, .int s2, xrv s1, .int s0], h) (some (.int r.1), r.2) := by
  unfold j234_278 at hf
  obtain ⟨_, eu_3, hf⟩ := x_bind hf
  obtain ⟨r_1, er_1, hf⟩ := x_bind hf
  refine sh_inv (as := [.int s3, .int s2]) (z := (some (.int r_1.1), r_1.2)) i234_278 v234_31 (Or.inl ⟨by decide, rfl⟩) m154 rfl (Nat.le_of_ble_eq_true rfl) eu_3 (fn154_call (by omega) er_1) ?_
  refine ev_icmp (t := 724) i234_281 rfl (fun c_2 => ?_) (fun c_2 => ?_)
  · replace hf := x_pos (show s0 = r_1.1 from c_2) hf
    exact j234_724_ok hd hk18 hf
  · replace hf := x_neg (show ¬ s0 = r_1.1 from c_2) hf
    refine ev_do i234_284 rfl ?_
    obtain rfl := Option.some.inj hf
    exact sh_iret i234_285 m234 rfl (by decide)
def j234_256 (xs : List Int32) (k18 : Option Nat → Option Nat → Int32 → xH → Option (Int32 × xH)) (o1 : Option Nat) (o2 : Option Nat) (x3 : Int32) (s0 : Option Nat) (s1 : Int32) (s2 : Int32) (h : xH) : Option (Int32 × xH) := (xcv h s0 10).bind fun _ => (fn115 s0 s1 s2 h).bind fun r_1 => (xsL xs (x3 + 1)).bind fun v_2 => (xsL xs (x3 + 2)).bind fun v_3 => (if v_3 = 0 then j234_278 xs k18 o1 o2 x3 r_1.1 o2 v_2 0 r_1.2 else j234_278 xs k18 o1 o2 x3 r_1.1 o2 v_2 1 r_1.2)
theorem j234_256_ok {xs : List Int32} {d : Nat} (hd : 69 ≤ d) {k18 : Option Nat → Option Nat → Int32 → xH → Option (Int32 × xH)} (hk18 : ∀ {o1 : Option Nat} {o2 : Option Nat} {x3 : Int32} {h : xH} {r : (Int32 × xH)}, k18 o1 o2 x3 h = some r → xEv (xTa xs) d 234 (18, [.retAddr 0, xrv o1, xrv o2, .int x3], [], h) (some (.int r.1), r.2)) {o1 : Option Nat} {o2 : Option Nat} {x3 : Int32} {s0 : Option Nat} {s1 : Int32} {s2 : Int32} {h : xH} {r : (Int32 × xH)} (hf : j234_256 xs k18 o1 o2 x3 s0 s1 s2 h = some r) : xEv (xTa xs) d 234 (256, [.retAddr 0, xrv o1, xrv o2, .int x3], [.int s2, .int s1, xrv s0], h) (some (.int r.1), r.2) := by
  unfold j234_256 at hf
  obtain ⟨_, eu_5, hf⟩ := x_bind hf
  obtain ⟨r_1, er_1, hf⟩ := x_bind hf
  refine sh_inv (as := [.int s2, .int s1]) (z := (some (.int r_1.1), r_1.2)) i234_256 v234_27 (Or.inl ⟨by decide, rfl⟩) m115 rfl (Nat.le_of_ble_eq_true rfl) eu_5 (fn115_call (by omega) er_1) ?_
  refine sh_aload (i' := 2) (n := 1) i234_259 (Or.inr ⟨rfl, by decide⟩) rfl ?_
  refine ev_do i234_260 rfl ?_
  refine ev_do i234_261 rfl ?_
  refine ev_do i234_262 rfl ?_
  refine ev_do i234_263 rfl ?_
  obtain ⟨v_2, ev_2, hf⟩ := x_bind hf
  refine sh_sld i234_264 ev_2 ?_
  refine ev_do i234_265 rfl ?_
  refine ev_do i234_266 rfl ?_
  refine ev_do i234_267 rfl ?_
  refine ev_do i234_268 rfl ?_
  obtain ⟨v_3, ev_3, hf⟩ := x_bind hf
  refine sh_sld i234_269 ev_3 ?_
  refine ev_if (t := 277) i234_270 rfl (fun c_4 => ?_) (fun c_4 => ?_)
  · replace hf := x_pos (show v_3 = 0 from c_4) hf
    refine ev_do i234_277 rfl ?_
    exact j234_278_ok hd hk18 hf
  · replace hf := x_neg (show ¬ v_3 = 0 from c_4) hf
    refine ev_do i234_273 rfl ?_
    refine sh_goto (t := 278) i234_274 rfl ?_
    exact j234_278_ok hd hk18 hf
def l234_18 (xs : List Int32)  : Nat → Option Nat → Option Nat → Int32 → xH → Option (Int32 × xH)
  | 0 => fun _ _ _ _ => none
  | n + 1 => fun o1 o2 x3 h => (if ((Int32.ofNat xs.length) - 6) < x3 then some (1, h) else (xsL xs x3).bind fun v_2 => (if (v_2 &&& 31) = 0 then (xsL xs (x3 + 1)).bind fun v_4 => (xsL xs (x3 + 2)).bind fun v_5 => (xsL xs (x3 + 3)).bind fun v_6 => (xsL xs (x3 + 4)).bind fun v_7 => (xsL xs (x3 + 5)).bind fun v_8 => (xcv h o1 10).bind fun _ => (fn112 o1 v_4 v_5 v_6 v_7 v_8 h).bind fun r_9 => (xsL xs (x3 + 1)).bind fun v_10 => (xsL xs (x3 + 2)).bind fun v_11 => (xsL xs (x3 + 3)).bind fun v_12 => (xsL xs (x3 + 4)).bind fun v_13 => (xsL xs (x3 + 5)).bind fun v_14 => (xcv r_9.2 o2 11).bind fun _ => (fn143 o2 v_10 v_11 v_12 v_13 v_14 r_9.2).bind fun r_15 => (if r_9.1 = r_15.1 then j234_724 xs (l234_18 xs n) o1 o2 x3 r_15.2 else some (0, r_15.2)) else (if (v_2 &&& 31) = 1 then (xsL xs (x3 + 1)).bind fun v_20 => (xcv h o1 10).bind fun _ => (fn113 o1 v_20 h).bind fun r_21 => (xsL xs (x3 + 1)).bind fun v_22 => (xcv r_21.2 o2 11).bind fun _ => (fn144 o2 v_22 r_21.2).bind fun r_23 => (if r_21.1 = r_23.1 then j234_724 xs (l234_18 xs n) o1 o2 x3 r_23.2 else some (0, r_23.2)) else (if (v_2 &&& 31) = 2 then (xsL xs (x3 + 1)).bind fun v_28 => (xcv h o1 10).bind fun _ => (fn114 o1 v_28 h).bind fun r_29 => (xsL xs (x3 + 1)).bind fun v_30 => (xcv r_29.2 o2 11).bind fun _ => (fn153 o2 v_30 r_29.2).bind fun r_31 => (if r_29.1 = r_31.1 then j234_724 xs (l234_18 xs n) o1 o2 x3 r_31.2 else some (0, r_31.2)) else (if (v_2 &&& 31) = 3 then (xsL xs (x3 + 1)).bind fun v_36 => (xsL xs (x3 + 2)).bind fun v_37 => (if v_37 = 0 then j234_256 xs (l234_18 xs n) o1 o2 x3 o1 v_36 0 h else j234_256 xs (l234_18 xs n) o1 o2 x3 o1 v_36 1 h) else (if (v_2 &&& 31) = 4 then (xsL xs (x3 + 1)).bind fun v_40 => (xcv h o1 10).bind fun _ => (fn116 o1 v_40 h).bind fun r_41 => (xsL xs (x3 + 1)).bind fun v_42 => (xcv r_41.2 o2 11).bind fun _ => (fn155 o2 v_42 r_41.2).bind fun r_43 => (if r_41.1 = r_43.1 then j234_724 xs (l234_18 xs n) o1 o2 x3 r_43.2 else some (0, r_43.2)) else (if (v_2 &&& 31) = 5 then (xsL xs (x3 + 1)).bind fun v_48 => (xcv h o1 10).bind fun _ => (fn117 o1 v_48 h).bind fun r_49 => (xsL xs (x3 + 1)).bind fun v_50 => (xcv r_49.2 o2 11).bind fun _ => (fn189 o2 v_50 r_49.2).bind fun r_51 => (if r_49.1 = r_51.1 then j234_724 xs (l234_18 xs n) o1 o2 x3 r_51.2 else some (0, r_51.2)) else (if (v_2 &&& 31) = 6 then (xcv h o1 10).bind fun _ => (fn119 o1 h).bind fun r_56 => (xcv r_56.2 o2 11).bind fun _ => (fn190 o2 r_56.2).bind fun r_57 => (if r_56.1 = r_57.1 then j234_724 xs (l234_18 xs n) o1 o2 x3 r_57.2 else some (0, r_57.2)) else (if (v_2 &&& 31) = 7 then (xsL xs (x3 + 1)).bind fun v_62 => (xcv h o1 10).bind fun _ => (fn120 o1 v_62 h).bind fun r_63 => (xsL xs (x3 + 1)).bind fun v_64 => (xcv r_63.2 o2 11).bind fun _ => (fn191 o2 v_64 r_63.2).bind fun r_65 => (if r_63.1 = r_65.1 then j234_724 xs (l234_18 xs n) o1 o2 x3 r_65.2 else some (0, r_65.2)) else (if (v_2 &&& 31) = 8 then (xsL xs (x3 + 1)).bind fun v_70 => (xsL xs (x3 + 2)).bind fun v_71 => (xcv h o1 10).bind fun _ => (fn121 o1 v_70 v_71 h).bind fun r_72 => (xsL xs (x3 + 1)).bind fun v_73 => (xsL xs (x3 + 2)).bind fun v_74 => (xcv r_72.2 o2 11).bind fun _ => (fn192 o2 v_73 v_74 r_72.2).bind fun r_75 => (if r_72.1 = r_75.1 then j234_724 xs (l234_18 xs n) o1 o2 x3 r_75.2 else some (0, r_75.2)) else (if (v_2 &&& 31) = 9 then (xsL xs (x3 + 1)).bind fun v_80 => (xsL xs (x3 + 2)).bind fun v_81 => (xsL xs (x3 + 3)).bind fun v_82 => (xcv h o1 10).bind fun _ => (fn122 o1 v_80 v_81 v_82 h).bind fun r_83 => (xsL xs (x3 + 1)).bind fun v_84 => (xsL xs (x3 + 2)).bind fun v_85 => (xsL xs (x3 + 3)).bind fun v_86 => (xcv r_83.2 o2 11).bind fun _ => (fn193 o2 v_84 v_85 v_86 r_83.2).bind fun r_87 => (if r_83.1 = r_87.1 then j234_724 xs (l234_18 xs n) o1 o2 x3 r_87.2 else some (0, r_87.2)) else (if (v_2 &&& 31) = 10 then (xsL xs (x3 + 1)).bind fun v_92 => (xsL xs (x3 + 2)).bind fun v_93 => (xsL xs (x3 + 3)).bind fun v_94 => (xcv h o1 10).bind fun _ => (fn123 o1 v_92 v_93 v_94 h).bind fun r_95 => (xsL xs (x3 + 1)).bind fun v_96 => (xsL xs (x3 + 2)).bind fun v_97 => (xsL xs (x3 + 3)).bind fun v_98 => (xcv r_95.2 o2 11).bind fun _ => (fn194 o2 v_96 v_97 v_98 r_95.2).bind fun r_99 => (if r_95.1 = r_99.1 then j234_724 xs (l234_18 xs n) o1 o2 x3 r_99.2 else some (0, r_99.2)) else (if (v_2 &&& 31) = 11 then (xsL xs (x3 + 1)).bind fun v_104 => (xcv h o1 10).bind fun _ => (fn124 o1 v_104 h).bind fun r_105 => (xsL xs (x3 + 1)).bind fun v_106 => (xcv r_105.2 o2 11).bind fun _ => (fn165 o2 v_106 r_105.2).bind fun r_107 => (if r_105.1 = r_107.1 then j234_724 xs (l234_18 xs n) o1 o2 x3 r_107.2 else some (0, r_107.2)) else (if (v_2 &&& 31) = 12 then (xsL xs (x3 + 1)).bind fun v_112 => (xsL xs (x3 + 2)).bind fun v_113 => (xsL xs (x3 + 3)).bind fun v_114 => (xcv h o1 10).bind fun _ => (fn125 o1 v_112 v_113 v_114 h).bind fun r_115 => (xsL xs (x3 + 1)).bind fun v_116 => (xsL xs (x3 + 2)).bind fun v_117 => (xsL xs (x3 + 3)).bind fun v_118 => (xcv r_115.2 o2 11).bind fun _ => (fn214 o2 v_116 v_117 v_118 r_115.2).bind fun r_119 => (if r_115.1 = r_119.1 then j234_724 xs (l234_18 xs n) o1 o2 x3 r_119.2 else some (0, r_119.2)) else (if (v_2 &&& 31) = 13 then (xsL xs (x3 + 1)).bind fun v_124 => (xcv h o1 10).bind fun _ => (fn126 o1 v_124 h).bind fun r_125 => (xsL xs (x3 + 1)).bind fun v_126 => (xcv r_125.2 o2 11).bind fun _ => (fn215 o2 v_126 r_125.2).bind fun r_127 => (if r_125.1 = r_127.1 then j234_724 xs (l234_18 xs n) o1 o2 x3 r_127.2 else some (0, r_127.2)) else (if (v_2 &&& 31) = 14 then (xsL xs (x3 + 1)).bind fun v_132 => (xcv h o1 10).bind fun _ => (fn127 o1 v_132 h).bind fun r_133 => (xsL xs (x3 + 1)).bind fun v_134 => (xcv r_133.2 o2 11).bind fun _ => (fn216 o2 v_134 r_133.2).bind fun r_135 => (if r_133.1 = r_135.1 then j234_724 xs (l234_18 xs n) o1 o2 x3 r_135.2 else some (0, r_135.2)) else (if (v_2 &&& 31) = 15 then (xsL xs (x3 + 1)).bind fun v_140 => (xcv h o1 10).bind fun _ => (fn128 o1 v_140 h).bind fun r_141 => (xsL xs (x3 + 1)).bind fun v_142 => (xcv r_141.2 o2 11).bind fun _ => (fn217 o2 v_142 r_141.2).bind fun r_143 => (if r_141.1 = r_143.1 then j234_724 xs (l234_18 xs n) o1 o2 x3 r_143.2 else some (0, r_143.2)) else (if (v_2 &&& 31) = 16 then (xsL xs (x3 + 1)).bind fun v_148 => (xcv h o1 10).bind fun _ => (fn129 o1 v_148 h).bind fun r_149 => (xsL xs (x3 + 1)).bind fun v_150 => (xcv r_149.2 o2 11).bind fun _ => (fn218 o2 v_150 r_149.2).bind fun r_151 => (if r_149.1 = r_151.1 then j234_724 xs (l234_18 xs n) o1 o2 x3 r_151.2 else some (0, r_151.2)) else (if (v_2 &&& 31) = 17 then (xsL xs (x3 + 1)).bind fun v_156 => (xcv h o1 10).bind fun _ => (fn130 o1 v_156 h).bind fun r_157 => (xsL xs (x3 + 1)).bind fun v_158 => (xcv r_157.2 o2 11).bind fun _ => (fn224 o2 v_158 r_157.2).bind fun r_159 => (if r_157.1 = r_159.1 then j234_724 xs (l234_18 xs n) o1 o2 x3 r_159.2 else some (0, r_159.2)) else (if (v_2 &&& 31) = 18 then (xsL xs (x3 + 1)).bind fun v_164 => (xsL xs (x3 + 2)).bind fun v_165 => (xcv h o1 10).bind fun _ => (fn131 o1 v_164 v_165 h).bind fun r_166 => (xsL xs (x3 + 1)).bind fun v_167 => (xsL xs (x3 + 2)).bind fun v_168 => (xcv r_166.2 o2 11).bind fun _ => (fn225 o2 v_167 v_168 r_166.2).bind fun r_169 => (if r_166.1 = r_169.1 then j234_724 xs (l234_18 xs n) o1 o2 x3 r_169.2 else some (0, r_169.2)) else (if (v_2 &&& 31) = 19 then (xsL xs (x3 + 1)).bind fun v_174 => (xcv h o1 10).bind fun _ => (fn132 o1 v_174 h).bind fun r_175 => (xsL xs (x3 + 1)).bind fun v_176 => (xcv r_175.2 o2 11).bind fun _ => (fn226 o2 v_176 r_175.2).bind fun r_177 => (if r_175.1 = r_177.1 then j234_724 xs (l234_18 xs n) o1 o2 x3 r_177.2 else some (0, r_177.2)) else j234_724 xs (l234_18 xs n) o1 o2 x3 h)))))))))))))))))))))
theorem l234_18_ok {xs : List Int32} {d : Nat} (hd : 69 ≤ d) : ∀ (n : Nat) {o1 : Option Nat} {o2 : Option Nat} {x3 : Int32} {h : xH} {r : (Int32 × xH)}, l234_18 xs n o1 o2 x3 h = some r → xEv (xTa xs) d 234 (18, [.retAddr 0, xrv o1, xrv o2, .int x3], [], h) (some (.int r.1), r.2) := by
  intro n
  induction n with
  | zero => intros; rename_i hf; cases hf
  | succ n ih =>
    intro o1 o2 x3 h r hf
    replace hf : ((if ((Int32.ofNat xs.length) - 6) < x3 then some (1, h) else (xsL xs x3).bind fun v_2 => (if (v_2 &&& 31) = 0 then (xsL xs (x3 + 1)).bind fun v_4 => (xsL xs (x3 + 2)).bind fun v_5 => (xsL xs (x3 + 3)).bind fun v_6 => (xsL xs (x3 + 4)).bind fun v_7 => (xsL xs (x3 + 5)).bind fun v_8 => (xcv h o1 10).bind fun _ => (fn112 o1 v_4 v_5 v_6 v_7 v_8 h).bind fun r_9 => (xsL xs (x3 + 1)).bind fun v_10 => (xsL xs (x3 + 2)).bind fun v_11 => (xsL xs (x3 + 3)).bind fun v_12 => (xsL xs (x3 + 4)).bind fun v_13 => (xsL xs (x3 + 5)).bind fun v_14 => (xcv r_9.2 o2 11).bind fun _ => (fn143 o2 v_10 v_11 v_12 v_13 v_14 r_9.2).bind fun r_15 => (if r_9.1 = r_15.1 then j234_724 xs (l234_18 xs n) o1 o2 x3 r_15.2 else some (0, r_15.2)) else (if (v_2 &&& 31) = 1 then (xsL xs (x3 + 1)).bind fun v_20 => (xcv h o1 10).bind fun _ => (fn113 o1 v_20 h).bind fun r_21 => (xsL xs (x3 + 1)).bind fun v_22 => (xcv r_21.2 o2 11).bind fun _ => (fn144 o2 v_22 r_21.2).bind fun r_23 => (if r_21.1 = r_23.1 then j234_724 xs (l234_18 xs n) o1 o2 x3 r_23.2 else some (0, r_23.2)) else (if (v_2 &&& 31) = 2 then (xsL xs (x3 + 1)).bind fun v_28 => (xcv h o1 10).bind fun _ => (fn114 o1 v_28 h).bind fun r_29 => (xsL xs (x3 + 1)).bind fun v_30 => (xcv r_29.2 o2 11).bind fun _ => (fn153 o2 v_30 r_29.2).bind fun r_31 => (if r_29.1 = r_31.1 then j234_724 xs (l234_18 xs n) o1 o2 x3 r_31.2 else some (0, r_31.2)) else (if (v_2 &&& 31) = 3 then (xsL xs (x3 + 1)).bind fun v_36 => (xsL xs (x3 + 2)).bind fun v_37 => (if v_37 = 0 then j234_256 xs (l234_18 xs n) o1 o2 x3 o1 v_36 0 h else j234_256 xs (l234_18 xs n) o1 o2 x3 o1 v_36 1 h) else (if (v_2 &&& 31) = 4 then (xsL xs (x3 + 1)).bind fun v_40 => (xcv h o1 10).bind fun _ => (fn116 o1 v_40 h).bind fun r_41 => (xsL xs (x3 + 1)).bind fun v_42 => (xcv r_41.2 o2 11).bind fun _ => (fn155 o2 v_42 r_41.2).bind fun r_43 => (if r_41.1 = r_43.1 then j234_724 xs (l234_18 xs n) o1 o2 x3 r_43.2 else some (0, r_43.2)) else (if (v_2 &&& 31) = 5 then (xsL xs (x3 + 1)).bind fun v_48 => (xcv h o1 10).bind fun _ => (fn117 o1 v_48 h).bind fun r_49 => (xsL xs (x3 + 1)).bind fun v_50 => (xcv r_49.2 o2 11).bind fun _ => (fn189 o2 v_50 r_49.2).bind fun r_51 => (if r_49.1 = r_51.1 then j234_724 xs (l234_18 xs n) o1 o2 x3 r_51.2 else some (0, r_51.2)) else (if (v_2 &&& 31) = 6 then (xcv h o1 10).bind fun _ => (fn119 o1 h).bind fun r_56 => (xcv r_56.2 o2 11).bind fun _ => (fn190 o2 r_56.2).bind fun r_57 => (if r_56.1 = r_57.1 then j234_724 xs (l234_18 xs n) o1 o2 x3 r_57.2 else some (0, r_57.2)) else (if (v_2 &&& 31) = 7 then (xsL xs (x3 + 1)).bind fun v_62 => (xcv h o1 10).bind fun _ => (fn120 o1 v_62 h).bind fun r_63 => (xsL xs (x3 + 1)).bind fun v_64 => (xcv r_63.2 o2 11).bind fun _ => (fn191 o2 v_64 r_63.2).bind fun r_65 => (if r_63.1 = r_65.1 then j234_724 xs (l234_18 xs n) o1 o2 x3 r_65.2 else some (0, r_65.2)) else (if (v_2 &&& 31) = 8 then (xsL xs (x3 + 1)).bind fun v_70 => (xsL xs (x3 + 2)).bind fun v_71 => (xcv h o1 10).bind fun _ => (fn121 o1 v_70 v_71 h).bind fun r_72 => (xsL xs (x3 + 1)).bind fun v_73 => (xsL xs (x3 + 2)).bind fun v_74 => (xcv r_72.2 o2 11).bind fun _ => (fn192 o2 v_73 v_74 r_72.2).bind fun r_75 => (if r_72.1 = r_75.1 then j234_724 xs (l234_18 xs n) o1 o2 x3 r_75.2 else some (0, r_75.2)) else (if (v_2 &&& 31) = 9 then (xsL xs (x3 + 1)).bind fun v_80 => (xsL xs (x3 + 2)).bind fun v_81 => (xsL xs (x3 + 3)).bind fun v_82 => (xcv h o1 10).bind fun _ => (fn122 o1 v_80 v_81 v_82 h).bind fun r_83 => (xsL xs (x3 + 1)).bind fun v_84 => (xsL xs (x3 + 2)).bind fun v_85 => (xsL xs (x3 + 3)).bind fun v_86 => (xcv r_83.2 o2 11).bind fun _ => (fn193 o2 v_84 v_85 v_86 r_83.2).bind fun r_87 => (if r_83.1 = r_87.1 then j234_724 xs (l234_18 xs n) o1 o2 x3 r_87.2 else some (0, r_87.2)) else (if (v_2 &&& 31) = 10 then (xsL xs (x3 + 1)).bind fun v_92 => (xsL xs (x3 + 2)).bind fun v_93 => (xsL xs (x3 + 3)).bind fun v_94 => (xcv h o1 10).bind fun _ => (fn123 o1 v_92 v_93 v_94 h).bind fun r_95 => (xsL xs (x3 + 1)).bind fun v_96 => (xsL xs (x3 + 2)).bind fun v_97 => (xsL xs (x3 + 3)).bind fun v_98 => (xcv r_95.2 o2 11).bind fun _ => (fn194 o2 v_96 v_97 v_98 r_95.2).bind fun r_99 => (if r_95.1 = r_99.1 then j234_724 xs (l234_18 xs n) o1 o2 x3 r_99.2 else some (0, r_99.2)) else (if (v_2 &&& 31) = 11 then (xsL xs (x3 + 1)).bind fun v_104 => (xcv h o1 10).bind fun _ => (fn124 o1 v_104 h).bind fun r_105 => (xsL xs (x3 + 1)).bind fun v_106 => (xcv r_105.2 o2 11).bind fun _ => (fn165 o2 v_106 r_105.2).bind fun r_107 => (if r_105.1 = r_107.1 then j234_724 xs (l234_18 xs n) o1 o2 x3 r_107.2 else some (0, r_107.2)) else (if (v_2 &&& 31) = 12 then (xsL xs (x3 + 1)).bind fun v_112 => (xsL xs (x3 + 2)).bind fun v_113 => (xsL xs (x3 + 3)).bind fun v_114 => (xcv h o1 10).bind fun _ => (fn125 o1 v_112 v_113 v_114 h).bind fun r_115 => (xsL xs (x3 + 1)).bind fun v_116 => (xsL xs (x3 + 2)).bind fun v_117 => (xsL xs (x3 + 3)).bind fun v_118 => (xcv r_115.2 o2 11).bind fun _ => (fn214 o2 v_116 v_117 v_118 r_115.2).bind fun r_119 => (if r_115.1 = r_119.1 then j234_724 xs (l234_18 xs n) o1 o2 x3 r_119.2 else some (0, r_119.2)) else (if (v_2 &&& 31) = 13 then (xsL xs (x3 + 1)).bind fun v_124 => (xcv h o1 10).bind fun _ => (fn126 o1 v_124 h).bind fun r_125 => (xsL xs (x3 + 1)).bind fun v_126 => (xcv r_125.2 o2 11).bind fun _ => (fn215 o2 v_126 r_125.2).bind fun r_127 => (if r_125.1 = r_127.1 then j234_724 xs (l234_18 xs n) o1 o2 x3 r_127.2 else some (0, r_127.2)) else (if (v_2 &&& 31) = 14 then (xsL xs (x3 + 1)).bind fun v_132 => (xcv h o1 10).bind fun _ => (fn127 o1 v_132 h).bind fun r_133 => (xsL xs (x3 + 1)).bind fun v_134 => (xcv r_133.2 o2 11).bind fun _ => (fn216 o2 v_134 r_133.2).bind fun r_135 => (if r_133.1 = r_135.1 then j234_724 xs (l234_18 xs n) o1 o2 x3 r_135.2 else some (0, r_135.2)) else (if (v_2 &&& 31) = 15 then (xsL xs (x3 + 1)).bind fun v_140 => (xcv h o1 10).bind fun _ => (fn128 o1 v_140 h).bind fun r_141 => (xsL xs (x3 + 1)).bind fun v_142 => (xcv r_141.2 o2 11).bind fun _ => (fn217 o2 v_142 r_141.2).bind fun r_143 => (if r_141.1 = r_143.1 then j234_724 xs (l234_18 xs n) o1 o2 x3 r_143.2 else some (0, r_143.2)) else (if (v_2 &&& 31) = 16 then (xsL xs (x3 + 1)).bind fun v_148 => (xcv h o1 10).bind fun _ => (fn129 o1 v_148 h).bind fun r_149 => (xsL xs (x3 + 1)).bind fun v_150 => (xcv r_149.2 o2 11).bind fun _ => (fn218 o2 v_150 r_149.2).bind fun r_151 => (if r_149.1 = r_151.1 then j234_724 xs (l234_18 xs n) o1 o2 x3 r_151.2 else some (0, r_151.2)) else (if (v_2 &&& 31) = 17 then (xsL xs (x3 + 1)).bind fun v_156 => (xcv h o1 10).bind fun _ => (fn130 o1 v_156 h).bind fun r_157 => (xsL xs (x3 + 1)).bind fun v_158 => (xcv r_157.2 o2 11).bind fun _ => (fn224 o2 v_158 r_157.2).bind fun r_159 => (if r_157.1 = r_159.1 then j234_724 xs (l234_18 xs n) o1 o2 x3 r_159.2 else some (0, r_159.2)) else (if (v_2 &&& 31) = 18 then (xsL xs (x3 + 1)).bind fun v_164 => (xsL xs (x3 + 2)).bind fun v_165 => (xcv h o1 10).bind fun _ => (fn131 o1 v_164 v_165 h).bind fun r_166 => (xsL xs (x3 + 1)).bind fun v_167 => (xsL xs (x3 + 2)).bind fun v_168 => (xcv r_166.2 o2 11).bind fun _ => (fn225 o2 v_167 v_168 r_166.2).bind fun r_169 => (if r_166.1 = r_169.1 then j234_724 xs (l234_18 xs n) o1 o2 x3 r_169.2 else some (0, r_169.2)) else (if (v_2 &&& 31) = 19 then (xsL xs (x3 + 1)).bind fun v_174 => (xcv h o1 10).bind fun _ => (fn132 o1 v_174 h).bind fun r_175 => (xsL xs (x3 + 1)).bind fun v_176 => (xcv r_175.2 o2 11).bind fun _ => (fn226 o2 v_176 r_175.2).bind fun r_177 => (if r_175.1 = r_177.1 then j234_724 xs (l234_18 xs n) o1 o2 x3 r_177.2 else some (0, r_177.2)) else j234_724 xs (l234_18 xs n) o1 o2 x3 h)))))))))))))))))))))) = some r := hf
    refine ev_do i234_18 rfl ?_
    refine ev_do i234_19 rfl ?_
    refine sh_slen i234_20 ?_
    refine ev_do i234_21 rfl ?_
    refine ev_do i234_23 rfl ?_
    refine ev_icmp (t := 730) i234_24 rfl (fun c_1 => ?_) (fun c_1 => ?_)
    · replace hf := x_pos (show ((Int32.ofNat xs.length) - 6) < x3 from c_1) hf
      refine ev_do i234_730 rfl ?_
      obtain rfl := Option.some.inj hf
      exact sh_iret i234_731 m234 rfl (by decide)
    · replace hf := x_neg (show ¬ ((Int32.ofNat xs.length) - 6) < x3 from c_1) hf
      refine ev_do i234_27 rfl ?_
      refine ev_do i234_28 rfl ?_
      obtain ⟨v_2, ev_2, hf⟩ := x_bind hf
      refine sh_sld i234_29 ev_2 ?_
      refine ev_do i234_30 rfl ?_
      refine ev_do i234_32 rfl ?_
      by_cases c_3 : (v_2 &&& 31) = 0
      · replace hf := x_pos c_3 hf
        refine sh_tswC (c := 0) (t := 128) i234_33 (show (v_2 &&& 31).toInt = 0 by rw [c_3]; rfl) (by decide) (by decide) rfl rfl ?_
        refine sh_aload (i' := 1) (n := 1) i234_128 (Or.inr ⟨rfl, by decide⟩) rfl ?_
        refine ev_do i234_129 rfl ?_
        refine ev_do i234_130 rfl ?_
        refine ev_do i234_131 rfl ?_
        refine ev_do i234_132 rfl ?_
        obtain ⟨v_4, ev_4, hf⟩ := x_bind hf
        refine sh_sld i234_133 ev_4 ?_
        refine ev_do i234_134 rfl ?_
        refine ev_do i234_135 rfl ?_
        refine ev_do i234_136 rfl ?_
        refine ev_do i234_137 rfl ?_
        obtain ⟨v_5, ev_5, hf⟩ := x_bind hf
        refine sh_sld i234_138 ev_5 ?_
        refine ev_do i234_139 rfl ?_
        refine ev_do i234_140 rfl ?_
        refine ev_do i234_141 rfl ?_
        refine ev_do i234_142 rfl ?_
        obtain ⟨v_6, ev_6, hf⟩ := x_bind hf
        refine sh_sld i234_143 ev_6 ?_
        refine ev_do i234_144 rfl ?_
        refine ev_do i234_145 rfl ?_
        refine ev_do i234_146 rfl ?_
        refine ev_do i234_147 rfl ?_
        obtain ⟨v_7, ev_7, hf⟩ := x_bind hf
        refine sh_sld i234_148 ev_7 ?_
        refine ev_do i234_149 rfl ?_
        refine ev_do i234_150 rfl ?_
        refine ev_do i234_151 rfl ?_
        refine ev_do i234_152 rfl ?_
        obtain ⟨v_8, ev_8, hf⟩ := x_bind hf
        refine sh_sld i234_153 ev_8 ?_
        obtain ⟨_, eu_18, hf⟩ := x_bind hf
        obtain ⟨r_9, er_9, hf⟩ := x_bind hf
        refine sh_inv (as := [.int v_8, .int v_7, .int v_6, .int v_5, .int v_4]) (z := (some (.int r_9.1), r_9.2)) i234_154 v234_13 (Or.inl ⟨by decide, rfl⟩) m112 rfl (Nat.le_of_ble_eq_true rfl) eu_18 (fn112_call (by omega) er_9) ?_
        refine sh_aload (i' := 2) (n := 1) i234_157 (Or.inr ⟨rfl, by decide⟩) rfl ?_
        refine ev_do i234_158 rfl ?_
        refine ev_do i234_159 rfl ?_
        refine ev_do i234_160 rfl ?_
        refine ev_do i234_161 rfl ?_
        obtain ⟨v_10, ev_10, hf⟩ := x_bind hf
        refine sh_sld i234_162 ev_10 ?_
        refine ev_do i234_163 rfl ?_
        refine ev_do i234_164 rfl ?_
        refine ev_do i234_165 rfl ?_
        refine ev_do i234_166 rfl ?_
        obtain ⟨v_11, ev_11, hf⟩ := x_bind hf
        refine sh_sld i234_167 ev_11 ?_
        refine ev_do i234_168 rfl ?_
        refine ev_do i234_169 rfl ?_
        refine ev_do i234_170 rfl ?_
        refine ev_do i234_171 rfl ?_
        obtain ⟨v_12, ev_12, hf⟩ := x_bind hf
        refine sh_sld i234_172 ev_12 ?_
        refine ev_do i234_173 rfl ?_
        refine ev_do i234_174 rfl ?_
        refine ev_do i234_175 rfl ?_
        refine ev_do i234_176 rfl ?_
        obtain ⟨v_13, ev_13, hf⟩ := x_bind hf
        refine sh_sld i234_177 ev_13 ?_
        refine ev_do i234_178 rfl ?_
        refine ev_do i234_179 rfl ?_
        refine ev_do i234_180 rfl ?_
        refine ev_do i234_181 rfl ?_
        obtain ⟨v_14, ev_14, hf⟩ := x_bind hf
        refine sh_sld i234_182 ev_14 ?_
        obtain ⟨_, eu_17, hf⟩ := x_bind hf
        obtain ⟨r_15, er_15, hf⟩ := x_bind hf
        refine sh_inv (as := [.int v_14, .int v_13, .int v_12, .int v_11, .int v_10]) (z := (some (.int r_15.1), r_15.2)) i234_183 v234_17 (Or.inl ⟨by decide, rfl⟩) m143 rfl (Nat.le_of_ble_eq_true rfl) eu_17 (fn143_call (by omega) er_15) ?_
        refine ev_icmp (t := 724) i234_186 rfl (fun c_16 => ?_) (fun c_16 => ?_)
        · replace hf := x_pos (show r_9.1 = r_15.1 from c_16) hf
          exact j234_724_ok hd ih hf
        · replace hf := x_neg (show ¬ r_9.1 = r_15.1 from c_16) hf
          refine ev_do i234_189 rfl ?_
          obtain rfl := Option.some.inj hf
          exact sh_iret i234_190 m234 rfl (by decide)
      · replace hf := x_neg c_3 hf
        by_cases c_19 : (v_2 &&& 31) = 1
        · replace hf := x_pos c_19 hf
          refine sh_tswC (c := 1) (t := 191) i234_33 (show (v_2 &&& 31).toInt = 1 by rw [c_19]; rfl) (by decide) (by decide) rfl rfl ?_
          refine sh_aload (i' := 1) (n := 1) i234_191 (Or.inr ⟨rfl, by decide⟩) rfl ?_
          refine ev_do i234_192 rfl ?_
          refine ev_do i234_193 rfl ?_
          refine ev_do i234_194 rfl ?_
          refine ev_do i234_195 rfl ?_
          obtain ⟨v_20, ev_20, hf⟩ := x_bind hf
          refine sh_sld i234_196 ev_20 ?_
          obtain ⟨_, eu_26, hf⟩ := x_bind hf
          obtain ⟨r_21, er_21, hf⟩ := x_bind hf
          refine sh_inv (as := [.int v_20]) (z := (some (.int r_21.1), r_21.2)) i234_197 v234_18 (Or.inl ⟨by decide, rfl⟩) m113 rfl (Nat.le_of_ble_eq_true rfl) eu_26 (fn113_call (by omega) er_21) ?_
          refine sh_aload (i' := 2) (n := 1) i234_200 (Or.inr ⟨rfl, by decide⟩) rfl ?_
          refine ev_do i234_201 rfl ?_
          refine ev_do i234_202 rfl ?_
          refine ev_do i234_203 rfl ?_
          refine ev_do i234_204 rfl ?_
          obtain ⟨v_22, ev_22, hf⟩ := x_bind hf
          refine sh_sld i234_205 ev_22 ?_
          obtain ⟨_, eu_25, hf⟩ := x_bind hf
          obtain ⟨r_23, er_23, hf⟩ := x_bind hf
          refine sh_inv (as := [.int v_22]) (z := (some (.int r_23.1), r_23.2)) i234_206 v234_22 (Or.inl ⟨by decide, rfl⟩) m144 rfl (Nat.le_of_ble_eq_true rfl) eu_25 (fn144_call (by omega) er_23) ?_
          refine ev_icmp (t := 724) i234_209 rfl (fun c_24 => ?_) (fun c_24 => ?_)
          · replace hf := x_pos (show r_21.1 = r_23.1 from c_24) hf
            exact j234_724_ok hd ih hf
          · replace hf := x_neg (show ¬ r_21.1 = r_23.1 from c_24) hf
            refine ev_do i234_212 rfl ?_
            obtain rfl := Option.some.inj hf
            exact sh_iret i234_213 m234 rfl (by decide)
        · replace hf := x_neg c_19 hf
          by_cases c_27 : (v_2 &&& 31) = 2
          · replace hf := x_pos c_27 hf
            refine sh_tswC (c := 2) (t := 214) i234_33 (show (v_2 &&& 31).toInt = 2 by rw [c_27]; rfl) (by decide) (by decide) rfl rfl ?_
            refine sh_aload (i' := 1) (n := 1) i234_214 (Or.inr ⟨rfl, by decide⟩) rfl ?_
            refine ev_do i234_215 rfl ?_
            refine ev_do i234_216 rfl ?_
            refine ev_do i234_217 rfl ?_
            refine ev_do i234_218 rfl ?_
            obtain ⟨v_28, ev_28, hf⟩ := x_bind hf
            refine sh_sld i234_219 ev_28 ?_
            obtain ⟨_, eu_34, hf⟩ := x_bind hf
            obtain ⟨r_29, er_29, hf⟩ := x_bind hf
            refine sh_inv (as := [.int v_28]) (z := (some (.int r_29.1), r_29.2)) i234_220 v234_23 (Or.inl ⟨by decide, rfl⟩) m114 rfl (Nat.le_of_ble_eq_true rfl) eu_34 (fn114_call (by omega) er_29) ?_
            refine sh_aload (i' := 2) (n := 1) i234_223 (Or.inr ⟨rfl, by decide⟩) rfl ?_
            refine ev_do i234_224 rfl ?_
            refine ev_do i234_225 rfl ?_
            refine ev_do i234_226 rfl ?_
            refine ev_do i234_227 rfl ?_
            obtain ⟨v_30, ev_30, hf⟩ := x_bind hf
            refine sh_sld i234_228 ev_30 ?_
            obtain ⟨_, eu_33, hf⟩ := x_bind hf
            obtain ⟨r_31, er_31, hf⟩ := x_bind hf
            refine sh_inv (as := [.int v_30]) (z := (some (.int r_31.1), r_31.2)) i234_229 v234_26 (Or.inl ⟨by decide, rfl⟩) m153 rfl (Nat.le_of_ble_eq_true rfl) eu_33 (fn153_call (by omega) er_31) ?_
            refine ev_icmp (t := 724) i234_232 rfl (fun c_32 => ?_) (fun c_32 => ?_)
            · replace hf := x_pos (show r_29.1 = r_31.1 from c_32) hf
              exact j234_724_ok hd ih hf
            · replace hf := x_neg (show ¬ r_29.1 = r_31.1 from c_32) hf
              refine ev_do i234_235 rfl ?_
              obtain rfl := Option.some.inj hf
              exact sh_iret i234_236 m234 rfl (by decide)
          · replace hf := x_neg c_27 hf
            by_cases c_35 : (v_2 &&& 31) = 3
            · replace hf := x_pos c_35 hf
              refine sh_tswC (c := 3) (t := 237) i234_33 (show (v_2 &&& 31).toInt = 3 by rw [c_35]; rfl) (by decide) (by decide) rfl rfl ?_
              refine sh_aload (i' := 1) (n := 1) i234_237 (Or.inr ⟨rfl, by decide⟩) rfl ?_
              refine ev_do i234_238 rfl ?_
              refine ev_do i234_239 rfl ?_
              refine ev_do i234_240 rfl ?_
              refine ev_do i234_241 rfl ?_
              obtain ⟨v_36, ev_36, hf⟩ := x_bind hf
              refine sh_sld i234_242 ev_36 ?_
              refine ev_do i234_243 rfl ?_
              refine ev_do i234_244 rfl ?_
              refine ev_do i234_245 rfl ?_
              refine ev_do i234_246 rfl ?_
              obtain ⟨v_37, ev_37, hf⟩ := x_bind hf
              refine sh_sld i234_247 ev_37 ?_
              refine ev_if (t := 255) i234_248 rfl (fun c_38 => ?_) (fun c_38 => ?_)
              · replace hf := x_pos (show v_37 = 0 from c_38) hf
                refine ev_do i234_255 rfl ?_
                exact j234_256_ok hd ih hf
              · replace hf := x_neg (show ¬ v_37 = 0 from c_38) hf
                refine ev_do i234_251 rfl ?_
                refine sh_goto (t := 256) i234_252 rfl ?_
                exact j234_256_ok hd ih hf
            · replace hf := x_neg c_35 hf
              by_cases c_39 : (v_2 &&& 31) = 4
              · replace hf := x_pos c_39 hf
                refine sh_tswC (c := 4) (t := 286) i234_33 (show (v_2 &&& 31).toInt = 4 by rw [c_39]; rfl) (by decide) (by decide) rfl rfl ?_
                refine sh_aload (i' := 1) (n := 1) i234_286 (Or.inr ⟨rfl, by decide⟩) rfl ?_
                refine ev_do i234_287 rfl ?_
                refine ev_do i234_288 rfl ?_
                refine ev_do i234_289 rfl ?_
                refine ev_do i234_290 rfl ?_
                obtain ⟨v_40, ev_40, hf⟩ := x_bind hf
                refine sh_sld i234_291 ev_40 ?_
                obtain ⟨_, eu_46, hf⟩ := x_bind hf
                obtain ⟨r_41, er_41, hf⟩ := x_bind hf
                refine sh_inv (as := [.int v_40]) (z := (some (.int r_41.1), r_41.2)) i234_292 v234_32 (Or.inl ⟨by decide, rfl⟩) m116 rfl (Nat.le_of_ble_eq_true rfl) eu_46 (fn116_call (by omega) er_41) ?_
                refine sh_aload (i' := 2) (n := 1) i234_295 (Or.inr ⟨rfl, by decide⟩) rfl ?_
                refine ev_do i234_296 rfl ?_
                refine ev_do i234_297 rfl ?_
                refine ev_do i234_298 rfl ?_
                refine ev_do i234_299 rfl ?_
                obtain ⟨v_42, ev_42, hf⟩ := x_bind hf
                refine sh_sld i234_300 ev_42 ?_
                obtain ⟨_, eu_45, hf⟩ := x_bind hf
                obtain ⟨r_43, er_43, hf⟩ := x_bind hf
                refine sh_inv (as := [.int v_42]) (z := (some (.int r_43.1), r_43.2)) i234_301 v234_35 (Or.inl ⟨by decide, rfl⟩) m155 rfl (Nat.le_of_ble_eq_true rfl) eu_45 (fn155_call (by omega) er_43) ?_
                refine ev_icmp (t := 724) i234_304 rfl (fun c_44 => ?_) (fun c_44 => ?_)
                · replace hf := x_pos (show r_41.1 = r_43.1 from c_44) hf
                  exact j234_724_ok hd ih hf
                · replace hf := x_neg (show ¬ r_41.1 = r_43.1 from c_44) hf
                  refine ev_do i234_307 rfl ?_
                  obtain rfl := Option.some.inj hf
                  exact sh_iret i234_308 m234 rfl (by decide)
              · replace hf := x_neg c_39 hf
                by_cases c_47 : (v_2 &&& 31) = 5
                · replace hf := x_pos c_47 hf
                  refine sh_tswC (c := 5) (t := 309) i234_33 (show (v_2 &&& 31).toInt = 5 by rw [c_47]; rfl) (by decide) (by decide) rfl rfl ?_
                  refine sh_aload (i' := 1) (n := 1) i234_309 (Or.inr ⟨rfl, by decide⟩) rfl ?_
                  refine ev_do i234_310 rfl ?_
                  refine ev_do i234_311 rfl ?_
                  refine ev_do i234_312 rfl ?_
                  refine ev_do i234_313 rfl ?_
                  obtain ⟨v_48, ev_48, hf⟩ := x_bind hf
                  refine sh_sld i234_314 ev_48 ?_
                  obtain ⟨_, eu_54, hf⟩ := x_bind hf
                  obtain ⟨r_49, er_49, hf⟩ := x_bind hf
                  refine sh_inv (as := [.int v_48]) (z := (some (.int r_49.1), r_49.2)) i234_315 v234_36 (Or.inl ⟨by decide, rfl⟩) m117 rfl (Nat.le_of_ble_eq_true rfl) eu_54 (fn117_call (by omega) er_49) ?_
                  refine sh_aload (i' := 2) (n := 1) i234_318 (Or.inr ⟨rfl, by decide⟩) rfl ?_
                  refine ev_do i234_319 rfl ?_
                  refine ev_do i234_320 rfl ?_
                  refine ev_do i234_321 rfl ?_
                  refine ev_do i234_322 rfl ?_
                  obtain ⟨v_50, ev_50, hf⟩ := x_bind hf
                  refine sh_sld i234_323 ev_50 ?_
                  obtain ⟨_, eu_53, hf⟩ := x_bind hf
                  obtain ⟨r_51, er_51, hf⟩ := x_bind hf
                  refine sh_inv (as := [.int v_50]) (z := (some (.int r_51.1), r_51.2)) i234_324 v234_39 (Or.inl ⟨by decide, rfl⟩) m189 rfl (Nat.le_of_ble_eq_true rfl) eu_53 (fn189_call (by omega) er_51) ?_
                  refine ev_icmp (t := 724) i234_327 rfl (fun c_52 => ?_) (fun c_52 => ?_)
                  · replace hf := x_pos (show r_49.1 = r_51.1 from c_52) hf
                    exact j234_724_ok hd ih hf
                  · replace hf := x_neg (show ¬ r_49.1 = r_51.1 from c_52) hf
                    refine ev_do i234_330 rfl ?_
                    obtain rfl := Option.some.inj hf
                    exact sh_iret i234_331 m234 rfl (by decide)
                · replace hf := x_neg c_47 hf
                  by_cases c_55 : (v_2 &&& 31) = 6
                  · replace hf := x_pos c_55 hf
                    refine sh_tswC (c := 6) (t := 332) i234_33 (show (v_2 &&& 31).toInt = 6 by rw [c_55]; rfl) (by decide) (by decide) rfl rfl ?_
                    refine sh_aload (i' := 1) (n := 1) i234_332 (Or.inr ⟨rfl, by decide⟩) rfl ?_
                    obtain ⟨_, eu_60, hf⟩ := x_bind hf
                    obtain ⟨r_56, er_56, hf⟩ := x_bind hf
                    refine sh_inv (as := []) (z := (some (.int r_56.1), r_56.2)) i234_333 v234_40 (Or.inl ⟨by decide, rfl⟩) m119 rfl (Nat.le_of_ble_eq_true rfl) eu_60 (fn119_call (by omega) er_56) ?_
                    refine sh_aload (i' := 2) (n := 1) i234_336 (Or.inr ⟨rfl, by decide⟩) rfl ?_
                    obtain ⟨_, eu_59, hf⟩ := x_bind hf
                    obtain ⟨r_57, er_57, hf⟩ := x_bind hf
                    refine sh_inv (as := []) (z := (some (.int r_57.1), r_57.2)) i234_337 v234_44 (Or.inl ⟨by decide, rfl⟩) m190 rfl (Nat.le_of_ble_eq_true rfl) eu_59 (fn190_call (by omega) er_57) ?_
                    refine ev_icmp (t := 724) i234_340 rfl (fun c_58 => ?_) (fun c_58 => ?_)
                    · replace hf := x_pos (show r_56.1 = r_57.1 from c_58) hf
                      exact j234_724_ok hd ih hf
                    · replace hf := x_neg (show ¬ r_56.1 = r_57.1 from c_58) hf
                      refine ev_do i234_343 rfl ?_
                      obtain rfl := Option.some.inj hf
                      exact sh_iret i234_344 m234 rfl (by decide)
                  · replace hf := x_neg c_55 hf
                    by_cases c_61 : (v_2 &&& 31) = 7
                    · replace hf := x_pos c_61 hf
                      refine sh_tswC (c := 7) (t := 345) i234_33 (show (v_2 &&& 31).toInt = 7 by rw [c_61]; rfl) (by decide) (by decide) rfl rfl ?_
                      refine sh_aload (i' := 1) (n := 1) i234_345 (Or.inr ⟨rfl, by decide⟩) rfl ?_
                      refine ev_do i234_346 rfl ?_
                      refine ev_do i234_347 rfl ?_
                      refine ev_do i234_348 rfl ?_
                      refine ev_do i234_349 rfl ?_
                      obtain ⟨v_62, ev_62, hf⟩ := x_bind hf
                      refine sh_sld i234_350 ev_62 ?_
                      obtain ⟨_, eu_68, hf⟩ := x_bind hf
                      obtain ⟨r_63, er_63, hf⟩ := x_bind hf
                      refine sh_inv (as := [.int v_62]) (z := (some (.int r_63.1), r_63.2)) i234_351 v234_45 (Or.inl ⟨by decide, rfl⟩) m120 rfl (Nat.le_of_ble_eq_true rfl) eu_68 (fn120_call (by omega) er_63) ?_
                      refine sh_aload (i' := 2) (n := 1) i234_354 (Or.inr ⟨rfl, by decide⟩) rfl ?_
                      refine ev_do i234_355 rfl ?_
                      refine ev_do i234_356 rfl ?_
                      refine ev_do i234_357 rfl ?_
                      refine ev_do i234_358 rfl ?_
                      obtain ⟨v_64, ev_64, hf⟩ := x_bind hf
                      refine sh_sld i234_359 ev_64 ?_
                      obtain ⟨_, eu_67, hf⟩ := x_bind hf
                      obtain ⟨r_65, er_65, hf⟩ := x_bind hf
                      refine sh_inv (as := [.int v_64]) (z := (some (.int r_65.1), r_65.2)) i234_360 v234_48 (Or.inl ⟨by decide, rfl⟩) m191 rfl (Nat.le_of_ble_eq_true rfl) eu_67 (fn191_call (by omega) er_65) ?_
                      refine ev_icmp (t := 724) i234_363 rfl (fun c_66 => ?_) (fun c_66 => ?_)
                      · replace hf := x_pos (show r_63.1 = r_65.1 from c_66) hf
                        exact j234_724_ok hd ih hf
                      · replace hf := x_neg (show ¬ r_63.1 = r_65.1 from c_66) hf
                        refine ev_do i234_366 rfl ?_
                        obtain rfl := Option.some.inj hf
                        exact sh_iret i234_367 m234 rfl (by decide)
                    · replace hf := x_neg c_61 hf
                      by_cases c_69 : (v_2 &&& 31) = 8
                      · replace hf := x_pos c_69 hf
                        refine sh_tswC (c := 8) (t := 368) i234_33 (show (v_2 &&& 31).toInt = 8 by rw [c_69]; rfl) (by decide) (by decide) rfl rfl ?_
                        refine sh_aload (i' := 1) (n := 1) i234_368 (Or.inr ⟨rfl, by decide⟩) rfl ?_
                        refine ev_do i234_369 rfl ?_
                        refine ev_do i234_370 rfl ?_
                        refine ev_do i234_371 rfl ?_
                        refine ev_do i234_372 rfl ?_
                        obtain ⟨v_70, ev_70, hf⟩ := x_bind hf
                        refine sh_sld i234_373 ev_70 ?_
                        refine ev_do i234_374 rfl ?_
                        refine ev_do i234_375 rfl ?_
                        refine ev_do i234_376 rfl ?_
                        refine ev_do i234_377 rfl ?_
                        obtain ⟨v_71, ev_71, hf⟩ := x_bind hf
                        refine sh_sld i234_378 ev_71 ?_
                        obtain ⟨_, eu_78, hf⟩ := x_bind hf
                        obtain ⟨r_72, er_72, hf⟩ := x_bind hf
                        refine sh_inv (as := [.int v_71, .int v_70]) (z := (some (.int r_72.1), r_72.2)) i234_379 v234_49 (Or.inl ⟨by decide, rfl⟩) m121 rfl (Nat.le_of_ble_eq_true rfl) eu_78 (fn121_call (by omega) er_72) ?_
                        refine sh_aload (i' := 2) (n := 1) i234_382 (Or.inr ⟨rfl, by decide⟩) rfl ?_
                        refine ev_do i234_383 rfl ?_
                        refine ev_do i234_384 rfl ?_
                        refine ev_do i234_385 rfl ?_
                        refine ev_do i234_386 rfl ?_
                        obtain ⟨v_73, ev_73, hf⟩ := x_bind hf
                        refine sh_sld i234_387 ev_73 ?_
                        refine ev_do i234_388 rfl ?_
                        refine ev_do i234_389 rfl ?_
                        refine ev_do i234_390 rfl ?_
                        refine ev_do i234_391 rfl ?_
                        obtain ⟨v_74, ev_74, hf⟩ := x_bind hf
                        refine sh_sld i234_392 ev_74 ?_
                        obtain ⟨_, eu_77, hf⟩ := x_bind hf
                        obtain ⟨r_75, er_75, hf⟩ := x_bind hf
                        refine sh_inv (as := [.int v_74, .int v_73]) (z := (some (.int r_75.1), r_75.2)) i234_393 v234_53 (Or.inl ⟨by decide, rfl⟩) m192 rfl (Nat.le_of_ble_eq_true rfl) eu_77 (fn192_call (by omega) er_75) ?_
                        refine ev_icmp (t := 724) i234_396 rfl (fun c_76 => ?_) (fun c_76 => ?_)
                        · replace hf := x_pos (show r_72.1 = r_75.1 from c_76) hf
                          exact j234_724_ok hd ih hf
                        · replace hf := x_neg (show ¬ r_72.1 = r_75.1 from c_76) hf
                          refine ev_do i234_399 rfl ?_
                          obtain rfl := Option.some.inj hf
                          exact sh_iret i234_400 m234 rfl (by decide)
                      · replace hf := x_neg c_69 hf
                        by_cases c_79 : (v_2 &&& 31) = 9
                        · replace hf := x_pos c_79 hf
                          refine sh_tswC (c := 9) (t := 401) i234_33 (show (v_2 &&& 31).toInt = 9 by rw [c_79]; rfl) (by decide) (by decide) rfl rfl ?_
                          refine sh_aload (i' := 1) (n := 1) i234_401 (Or.inr ⟨rfl, by decide⟩) rfl ?_
                          refine ev_do i234_402 rfl ?_
                          refine ev_do i234_403 rfl ?_
                          refine ev_do i234_404 rfl ?_
                          refine ev_do i234_405 rfl ?_
                          obtain ⟨v_80, ev_80, hf⟩ := x_bind hf
                          refine sh_sld i234_406 ev_80 ?_
                          refine ev_do i234_407 rfl ?_
                          refine ev_do i234_408 rfl ?_
                          refine ev_do i234_409 rfl ?_
                          refine ev_do i234_410 rfl ?_
                          obtain ⟨v_81, ev_81, hf⟩ := x_bind hf
                          refine sh_sld i234_411 ev_81 ?_
                          refine ev_do i234_412 rfl ?_
                          refine ev_do i234_413 rfl ?_
                          refine ev_do i234_414 rfl ?_
                          refine ev_do i234_415 rfl ?_
                          obtain ⟨v_82, ev_82, hf⟩ := x_bind hf
                          refine sh_sld i234_416 ev_82 ?_
                          obtain ⟨_, eu_90, hf⟩ := x_bind hf
                          obtain ⟨r_83, er_83, hf⟩ := x_bind hf
                          refine sh_inv (as := [.int v_82, .int v_81, .int v_80]) (z := (some (.int r_83.1), r_83.2)) i234_417 v234_54 (Or.inl ⟨by decide, rfl⟩) m122 rfl (Nat.le_of_ble_eq_true rfl) eu_90 (fn122_call (by omega) er_83) ?_
                          refine sh_aload (i' := 2) (n := 1) i234_420 (Or.inr ⟨rfl, by decide⟩) rfl ?_
                          refine ev_do i234_421 rfl ?_
                          refine ev_do i234_422 rfl ?_
                          refine ev_do i234_423 rfl ?_
                          refine ev_do i234_424 rfl ?_
                          obtain ⟨v_84, ev_84, hf⟩ := x_bind hf
                          refine sh_sld i234_425 ev_84 ?_
                          refine ev_do i234_426 rfl ?_
                          refine ev_do i234_427 rfl ?_
                          refine ev_do i234_428 rfl ?_
                          refine ev_do i234_429 rfl ?_
                          obtain ⟨v_85, ev_85, hf⟩ := x_bind hf
                          refine sh_sld i234_430 ev_85 ?_
                          refine ev_do i234_431 rfl ?_
                          refine ev_do i234_432 rfl ?_
                          refine ev_do i234_433 rfl ?_
                          refine ev_do i234_434 rfl ?_
                          obtain ⟨v_86, ev_86, hf⟩ := x_bind hf
                          refine sh_sld i234_435 ev_86 ?_
                          obtain ⟨_, eu_89, hf⟩ := x_bind hf
                          obtain ⟨r_87, er_87, hf⟩ := x_bind hf
                          refine sh_inv (as := [.int v_86, .int v_85, .int v_84]) (z := (some (.int r_87.1), r_87.2)) i234_436 v234_58 (Or.inl ⟨by decide, rfl⟩) m193 rfl (Nat.le_of_ble_eq_true rfl) eu_89 (fn193_call (by omega) er_87) ?_
                          refine ev_icmp (t := 724) i234_439 rfl (fun c_88 => ?_) (fun c_88 => ?_)
                          · replace hf := x_pos (show r_83.1 = r_87.1 from c_88) hf
                            exact j234_724_ok hd ih hf
                          · replace hf := x_neg (show ¬ r_83.1 = r_87.1 from c_88) hf
                            refine ev_do i234_442 rfl ?_
                            obtain rfl := Option.some.inj hf
                            exact sh_iret i234_443 m234 rfl (by decide)
                        · replace hf := x_neg c_79 hf
                          by_cases c_91 : (v_2 &&& 31) = 10
                          · replace hf := x_pos c_91 hf
                            refine sh_tswC (c := 10) (t := 444) i234_33 (show (v_2 &&& 31).toInt = 10 by rw [c_91]; rfl) (by decide) (by decide) rfl rfl ?_
                            refine sh_aload (i' := 1) (n := 1) i234_444 (Or.inr ⟨rfl, by decide⟩) rfl ?_
                            refine ev_do i234_445 rfl ?_
                            refine ev_do i234_446 rfl ?_
                            refine ev_do i234_447 rfl ?_
                            refine ev_do i234_448 rfl ?_
                            obtain ⟨v_92, ev_92, hf⟩ := x_bind hf
                            refine sh_sld i234_449 ev_92 ?_
                            refine ev_do i234_450 rfl ?_
                            refine ev_do i234_451 rfl ?_
                            refine ev_do i234_452 rfl ?_
                            refine ev_do i234_453 rfl ?_
                            obtain ⟨v_93, ev_93, hf⟩ := x_bind hf
                            refine sh_sld i234_454 ev_93 ?_
                            refine ev_do i234_455 rfl ?_
                            refine ev_do i234_456 rfl ?_
                            refine ev_do i234_457 rfl ?_
                            refine ev_do i234_458 rfl ?_
                            obtain ⟨v_94, ev_94, hf⟩ := x_bind hf
                            refine sh_sld i234_459 ev_94 ?_
                            obtain ⟨_, eu_102, hf⟩ := x_bind hf
                            obtain ⟨r_95, er_95, hf⟩ := x_bind hf
                            refine sh_inv (as := [.int v_94, .int v_93, .int v_92]) (z := (some (.int r_95.1), r_95.2)) i234_460 v234_59 (Or.inl ⟨by decide, rfl⟩) m123 rfl (Nat.le_of_ble_eq_true rfl) eu_102 (fn123_call (by omega) er_95) ?_
                            refine sh_aload (i' := 2) (n := 1) i234_463 (Or.inr ⟨rfl, by decide⟩) rfl ?_
                            refine ev_do i234_464 rfl ?_
                            refine ev_do i234_465 rfl ?_
                            refine ev_do i234_466 rfl ?_
                            refine ev_do i234_467 rfl ?_
                            obtain ⟨v_96, ev_96, hf⟩ := x_bind hf
                            refine sh_sld i234_468 ev_96 ?_
                            refine ev_do i234_469 rfl ?_
                            refine ev_do i234_470 rfl ?_
                            refine ev_do i234_471 rfl ?_
                            refine ev_do i234_472 rfl ?_
                            obtain ⟨v_97, ev_97, hf⟩ := x_bind hf
                            refine sh_sld i234_473 ev_97 ?_
                            refine ev_do i234_474 rfl ?_
                            refine ev_do i234_475 rfl ?_
                            refine ev_do i234_476 rfl ?_
                            refine ev_do i234_477 rfl ?_
                            obtain ⟨v_98, ev_98, hf⟩ := x_bind hf
                            refine sh_sld i234_478 ev_98 ?_
                            obtain ⟨_, eu_101, hf⟩ := x_bind hf
                            obtain ⟨r_99, er_99, hf⟩ := x_bind hf
                            refine sh_inv (as := [.int v_98, .int v_97, .int v_96]) (z := (some (.int r_99.1), r_99.2)) i234_479 v234_62 (Or.inl ⟨by decide, rfl⟩) m194 rfl (Nat.le_of_ble_eq_true rfl) eu_101 (fn194_call (by omega) er_99) ?_
                            refine ev_icmp (t := 724) i234_482 rfl (fun c_100 => ?_) (fun c_100 => ?_)
                            · replace hf := x_pos (show r_95.1 = r_99.1 from c_100) hf
                              exact j234_724_ok hd ih hf
                            · replace hf := x_neg (show ¬ r_95.1 = r_99.1 from c_100) hf
                              refine ev_do i234_485 rfl ?_
                              obtain rfl := Option.some.inj hf
                              exact sh_iret i234_486 m234 rfl (by decide)
                          · replace hf := x_neg c_91 hf
                            by_cases c_103 : (v_2 &&& 31) = 11
                            · replace hf := x_pos c_103 hf
                              refine sh_tswC (c := 11) (t := 487) i234_33 (show (v_2 &&& 31).toInt = 11 by rw [c_103]; rfl) (by decide) (by decide) rfl rfl ?_
                              refine sh_aload (i' := 1) (n := 1) i234_487 (Or.inr ⟨rfl, by decide⟩) rfl ?_
                              refine ev_do i234_488 rfl ?_
                              refine ev_do i234_489 rfl ?_
                              refine ev_do i234_490 rfl ?_
                              refine ev_do i234_491 rfl ?_
                              obtain ⟨v_104, ev_104, hf⟩ := x_bind hf
                              refine sh_sld i234_492 ev_104 ?_
                              obtain ⟨_, eu_110, hf⟩ := x_bind hf
                              obtain ⟨r_105, er_105, hf⟩ := x_bind hf
                              refine sh_inv (as := [.int v_104]) (z := (some (.int r_105.1), r_105.2)) i234_493 v234_63 (Or.inl ⟨by decide, rfl⟩) m124 rfl (Nat.le_of_ble_eq_true rfl) eu_110 (fn124_call (by omega) er_105) ?_
                              refine sh_aload (i' := 2) (n := 1) i234_496 (Or.inr ⟨rfl, by decide⟩) rfl ?_
                              refine ev_do i234_497 rfl ?_
                              refine ev_do i234_498 rfl ?_
                              refine ev_do i234_499 rfl ?_
                              refine ev_do i234_500 rfl ?_
                              obtain ⟨v_106, ev_106, hf⟩ := x_bind hf
                              refine sh_sld i234_501 ev_106 ?_
                              obtain ⟨_, eu_109, hf⟩ := x_bind hf
                              obtain ⟨r_107, er_107, hf⟩ := x_bind hf
                              refine sh_inv (as := [.int v_106]) (z := (some (.int r_107.1), r_107.2)) i234_502 v234_66 (Or.inl ⟨by decide, rfl⟩) m165 rfl (Nat.le_of_ble_eq_true rfl) eu_109 (fn165_call (by omega) er_107) ?_
                              refine ev_icmp (t := 724) i234_505 rfl (fun c_108 => ?_) (fun c_108 => ?_)
                              · replace hf := x_pos (show r_105.1 = r_107.1 from c_108) hf
                                exact j234_724_ok hd ih hf
                              · replace hf := x_neg (show ¬ r_105.1 = r_107.1 from c_108) hf
                                refine ev_do i234_508 rfl ?_
                                obtain rfl := Option.some.inj hf
                                exact sh_iret i234_509 m234 rfl (by decide)
                            · replace hf := x_neg c_103 hf
                              by_cases c_111 : (v_2 &&& 31) = 12
                              · replace hf := x_pos c_111 hf
                                refine sh_tswC (c := 12) (t := 510) i234_33 (show (v_2 &&& 31).toInt = 12 by rw [c_111]; rfl) (by decide) (by decide) rfl rfl ?_
                                refine sh_aload (i' := 1) (n := 1) i234_510 (Or.inr ⟨rfl, by decide⟩) rfl ?_
                                refine ev_do i234_511 rfl ?_
                                refine ev_do i234_512 rfl ?_
                                refine ev_do i234_513 rfl ?_
                                refine ev_do i234_514 rfl ?_
                                obtain ⟨v_112, ev_112, hf⟩ := x_bind hf
                                refine sh_sld i234_515 ev_112 ?_
                                refine ev_do i234_516 rfl ?_
                                refine ev_do i234_517 rfl ?_
                                refine ev_do i234_518 rfl ?_
                                refine ev_do i234_519 rfl ?_
                                obtain ⟨v_113, ev_113, hf⟩ := x_bind hf
                                refine sh_sld i234_520 ev_113 ?_
                                refine ev_do i234_521 rfl ?_
                                refine ev_do i234_522 rfl ?_
                                refine ev_do i234_523 rfl ?_
                                refine ev_do i234_524 rfl ?_
                                obtain ⟨v_114, ev_114, hf⟩ := x_bind hf
                                refine sh_sld i234_525 ev_114 ?_
                                obtain ⟨_, eu_122, hf⟩ := x_bind hf
                                obtain ⟨r_115, er_115, hf⟩ := x_bind hf
                                refine sh_inv (as := [.int v_114, .int v_113, .int v_112]) (z := (some (.int r_115.1), r_115.2)) i234_526 v234_67 (Or.inl ⟨by decide, rfl⟩) m125 rfl (Nat.le_of_ble_eq_true rfl) eu_122 (fn125_call (by omega) er_115) ?_
                                refine sh_aload (i' := 2) (n := 1) i234_529 (Or.inr ⟨rfl, by decide⟩) rfl ?_
                                refine ev_do i234_530 rfl ?_
                                refine ev_do i234_531 rfl ?_
                                refine ev_do i234_532 rfl ?_
                                refine ev_do i234_533 rfl ?_
                                obtain ⟨v_116, ev_116, hf⟩ := x_bind hf
                                refine sh_sld i234_534 ev_116 ?_
                                refine ev_do i234_535 rfl ?_
                                refine ev_do i234_536 rfl ?_
                                refine ev_do i234_537 rfl ?_
                                refine ev_do i234_538 rfl ?_
                                obtain ⟨v_117, ev_117, hf⟩ := x_bind hf
                                refine sh_sld i234_539 ev_117 ?_
                                refine ev_do i234_540 rfl ?_
                                refine ev_do i234_541 rfl ?_
                                refine ev_do i234_542 rfl ?_
                                refine ev_do i234_543 rfl ?_
                                obtain ⟨v_118, ev_118, hf⟩ := x_bind hf
                                refine sh_sld i234_544 ev_118 ?_
                                obtain ⟨_, eu_121, hf⟩ := x_bind hf
                                obtain ⟨r_119, er_119, hf⟩ := x_bind hf
                                refine sh_inv (as := [.int v_118, .int v_117, .int v_116]) (z := (some (.int r_119.1), r_119.2)) i234_545 v234_70 (Or.inl ⟨by decide, rfl⟩) m214 rfl (Nat.le_of_ble_eq_true rfl) eu_121 (fn214_call (by omega) er_119) ?_
                                refine ev_icmp (t := 724) i234_548 rfl (fun c_120 => ?_) (fun c_120 => ?_)
                                · replace hf := x_pos (show r_115.1 = r_119.1 from c_120) hf
                                  exact j234_724_ok hd ih hf
                                · replace hf := x_neg (show ¬ r_115.1 = r_119.1 from c_120) hf
                                  refine ev_do i234_551 rfl ?_
                                  obtain rfl := Option.some.inj hf
                                  exact sh_iret i234_552 m234 rfl (by decide)
                              · replace hf := x_neg c_111 hf
                                by_cases c_123 : (v_2 &&& 31) = 13
                                · replace hf := x_pos c_123 hf
                                  refine sh_tswC (c := 13) (t := 553) i234_33 (show (v_2 &&& 31).toInt = 13 by rw [c_123]; rfl) (by decide) (by decide) rfl rfl ?_
                                  refine sh_aload (i' := 1) (n := 1) i234_553 (Or.inr ⟨rfl, by decide⟩) rfl ?_
                                  refine ev_do i234_554 rfl ?_
                                  refine ev_do i234_555 rfl ?_
                                  refine ev_do i234_556 rfl ?_
                                  refine ev_do i234_557 rfl ?_
                                  obtain ⟨v_124, ev_124, hf⟩ := x_bind hf
                                  refine sh_sld i234_558 ev_124 ?_
                                  obtain ⟨_, eu_130, hf⟩ := x_bind hf
                                  obtain ⟨r_125, er_125, hf⟩ := x_bind hf
                                  refine sh_inv (as := [.int v_124]) (z := (some (.int r_125.1), r_125.2)) i234_559 v234_71 (Or.inl ⟨by decide, rfl⟩) m126 rfl (Nat.le_of_ble_eq_true rfl) eu_130 (fn126_call (by omega) er_125) ?_
                                  refine sh_aload (i' := 2) (n := 1) i234_562 (Or.inr ⟨rfl, by decide⟩) rfl ?_
                                  refine ev_do i234_563 rfl ?_
                                  refine ev_do i234_564 rfl ?_
                                  refine ev_do i234_565 rfl ?_
                                  refine ev_do i234_566 rfl ?_
                                  obtain ⟨v_126, ev_126, hf⟩ := x_bind hf
                                  refine sh_sld i234_567 ev_126 ?_
                                  obtain ⟨_, eu_129, hf⟩ := x_bind hf
                                  obtain ⟨r_127, er_127, hf⟩ := x_bind hf
                                  refine sh_inv (as := [.int v_126]) (z := (some (.int r_127.1), r_127.2)) i234_568 v234_74 (Or.inl ⟨by decide, rfl⟩) m215 rfl (Nat.le_of_ble_eq_true rfl) eu_129 (fn215_call (by omega) er_127) ?_
                                  refine ev_icmp (t := 724) i234_571 rfl (fun c_128 => ?_) (fun c_128 => ?_)
                                  · replace hf := x_pos (show r_125.1 = r_127.1 from c_128) hf
                                    exact j234_724_ok hd ih hf
                                  · replace hf := x_neg (show ¬ r_125.1 = r_127.1 from c_128) hf
                                    refine ev_do i234_574 rfl ?_
                                    obtain rfl := Option.some.inj hf
                                    exact sh_iret i234_575 m234 rfl (by decide)
                                · replace hf := x_neg c_123 hf
                                  by_cases c_131 : (v_2 &&& 31) = 14
                                  · replace hf := x_pos c_131 hf
                                    refine sh_tswC (c := 14) (t := 576) i234_33 (show (v_2 &&& 31).toInt = 14 by rw [c_131]; rfl) (by decide) (by decide) rfl rfl ?_
                                    refine sh_aload (i' := 1) (n := 1) i234_576 (Or.inr ⟨rfl, by decide⟩) rfl ?_
                                    refine ev_do i234_577 rfl ?_
                                    refine ev_do i234_578 rfl ?_
                                    refine ev_do i234_579 rfl ?_
                                    refine ev_do i234_580 rfl ?_
                                    obtain ⟨v_132, ev_132, hf⟩ := x_bind hf
                                    refine sh_sld i234_581 ev_132 ?_
                                    obtain ⟨_, eu_138, hf⟩ := x_bind hf
                                    obtain ⟨r_133, er_133, hf⟩ := x_bind hf
                                    refine sh_inv (as := [.int v_132]) (z := (some (.int r_133.1), r_133.2)) i234_582 v234_75 (Or.inl ⟨by decide, rfl⟩) m127 rfl (Nat.le_of_ble_eq_true rfl) eu_138 (fn127_call (by omega) er_133) ?_
                                    refine sh_aload (i' := 2) (n := 1) i234_585 (Or.inr ⟨rfl, by decide⟩) rfl ?_
                                    refine ev_do i234_586 rfl ?_
                                    refine ev_do i234_587 rfl ?_
                                    refine ev_do i234_588 rfl ?_
                                    refine ev_do i234_589 rfl ?_
                                    obtain ⟨v_134, ev_134, hf⟩ := x_bind hf
                                    refine sh_sld i234_590 ev_134 ?_
                                    obtain ⟨_, eu_137, hf⟩ := x_bind hf
                                    obtain ⟨r_135, er_135, hf⟩ := x_bind hf
                                    refine sh_inv (as := [.int v_134]) (z := (some (.int r_135.1), r_135.2)) i234_591 v234_78 (Or.inl ⟨by decide, rfl⟩) m216 rfl (Nat.le_of_ble_eq_true rfl) eu_137 (fn216_call (by omega) er_135) ?_
                                    refine ev_icmp (t := 724) i234_594 rfl (fun c_136 => ?_) (fun c_136 => ?_)
                                    · replace hf := x_pos (show r_133.1 = r_135.1 from c_136) hf
                                      exact j234_724_ok hd ih hf
                                    · replace hf := x_neg (show ¬ r_133.1 = r_135.1 from c_136) hf
                                      refine ev_do i234_597 rfl ?_
                                      obtain rfl := Option.some.inj hf
                                      exact sh_iret i234_598 m234 rfl (by decide)
                                  · replace hf := x_neg c_131 hf
                                    by_cases c_139 : (v_2 &&& 31) = 15
                                    · replace hf := x_pos c_139 hf
                                      refine sh_tswC (c := 15) (t := 599) i234_33 (show (v_2 &&& 31).toInt = 15 by rw [c_139]; rfl) (by decide) (by decide) rfl rfl ?_
                                      refine sh_aload (i' := 1) (n := 1) i234_599 (Or.inr ⟨rfl, by decide⟩) rfl ?_
                                      refine ev_do i234_600 rfl ?_
                                      refine ev_do i234_601 rfl ?_
                                      refine ev_do i234_602 rfl ?_
                                      refine ev_do i234_603 rfl ?_
                                      obtain ⟨v_140, ev_140, hf⟩ := x_bind hf
                                      refine sh_sld i234_604 ev_140 ?_
                                      obtain ⟨_, eu_146, hf⟩ := x_bind hf
                                      obtain ⟨r_141, er_141, hf⟩ := x_bind hf
                                      refine sh_inv (as := [.int v_140]) (z := (some (.int r_141.1), r_141.2)) i234_605 v234_79 (Or.inl ⟨by decide, rfl⟩) m128 rfl (Nat.le_of_ble_eq_true rfl) eu_146 (fn128_call (by omega) er_141) ?_
                                      refine sh_aload (i' := 2) (n := 1) i234_608 (Or.inr ⟨rfl, by decide⟩) rfl ?_
                                      refine ev_do i234_609 rfl ?_
                                      refine ev_do i234_610 rfl ?_
                                      refine ev_do i234_611 rfl ?_
                                      refine ev_do i234_612 rfl ?_
                                      obtain ⟨v_142, ev_142, hf⟩ := x_bind hf
                                      refine sh_sld i234_613 ev_142 ?_
                                      obtain ⟨_, eu_145, hf⟩ := x_bind hf
                                      obtain ⟨r_143, er_143, hf⟩ := x_bind hf
                                      refine sh_inv (as := [.int v_142]) (z := (some (.int r_143.1), r_143.2)) i234_614 v234_82 (Or.inl ⟨by decide, rfl⟩) m217 rfl (Nat.le_of_ble_eq_true rfl) eu_145 (fn217_call (by omega) er_143) ?_
                                      refine ev_icmp (t := 724) i234_617 rfl (fun c_144 => ?_) (fun c_144 => ?_)
                                      · replace hf := x_pos (show r_141.1 = r_143.1 from c_144) hf
                                        exact j234_724_ok hd ih hf
                                      · replace hf := x_neg (show ¬ r_141.1 = r_143.1 from c_144) hf
                                        refine ev_do i234_620 rfl ?_
                                        obtain rfl := Option.some.inj hf
                                        exact sh_iret i234_621 m234 rfl (by decide)
                                    · replace hf := x_neg c_139 hf
                                      by_cases c_147 : (v_2 &&& 31) = 16
                                      · replace hf := x_pos c_147 hf
                                        refine sh_tswC (c := 16) (t := 622) i234_33 (show (v_2 &&& 31).toInt = 16 by rw [c_147]; rfl) (by decide) (by decide) rfl rfl ?_
                                        refine sh_aload (i' := 1) (n := 1) i234_622 (Or.inr ⟨rfl, by decide⟩) rfl ?_
                                        refine ev_do i234_623 rfl ?_
                                        refine ev_do i234_624 rfl ?_
                                        refine ev_do i234_625 rfl ?_
                                        refine ev_do i234_626 rfl ?_
                                        obtain ⟨v_148, ev_148, hf⟩ := x_bind hf
                                        refine sh_sld i234_627 ev_148 ?_
                                        obtain ⟨_, eu_154, hf⟩ := x_bind hf
                                        obtain ⟨r_149, er_149, hf⟩ := x_bind hf
                                        refine sh_inv (as := [.int v_148]) (z := (some (.int r_149.1), r_149.2)) i234_628 v234_83 (Or.inl ⟨by decide, rfl⟩) m129 rfl (Nat.le_of_ble_eq_true rfl) eu_154 (fn129_call (by omega) er_149) ?_
                                        refine sh_aload (i' := 2) (n := 1) i234_631 (Or.inr ⟨rfl, by decide⟩) rfl ?_
                                        refine ev_do i234_632 rfl ?_
                                        refine ev_do i234_633 rfl ?_
                                        refine ev_do i234_634 rfl ?_
                                        refine ev_do i234_635 rfl ?_
                                        obtain ⟨v_150, ev_150, hf⟩ := x_bind hf
                                        refine sh_sld i234_636 ev_150 ?_
                                        obtain ⟨_, eu_153, hf⟩ := x_bind hf
                                        obtain ⟨r_151, er_151, hf⟩ := x_bind hf
                                        refine sh_inv (as := [.int v_150]) (z := (some (.int r_151.1), r_151.2)) i234_637 v234_86 (Or.inl ⟨by decide, rfl⟩) m218 rfl (Nat.le_of_ble_eq_true rfl) eu_153 (fn218_call (by omega) er_151) ?_
                                        refine ev_icmp (t := 724) i234_640 rfl (fun c_152 => ?_) (fun c_152 => ?_)
                                        · replace hf := x_pos (show r_149.1 = r_151.1 from c_152) hf
                                          exact j234_724_ok hd ih hf
                                        · replace hf := x_neg (show ¬ r_149.1 = r_151.1 from c_152) hf
                                          refine ev_do i234_643 rfl ?_
                                          obtain rfl := Option.some.inj hf
                                          exact sh_iret i234_644 m234 rfl (by decide)
                                      · replace hf := x_neg c_147 hf
                                        by_cases c_155 : (v_2 &&& 31) = 17
                                        · replace hf := x_pos c_155 hf
                                          refine sh_tswC (c := 17) (t := 645) i234_33 (show (v_2 &&& 31).toInt = 17 by rw [c_155]; rfl) (by decide) (by decide) rfl rfl ?_
                                          refine sh_aload (i' := 1) (n := 1) i234_645 (Or.inr ⟨rfl, by decide⟩) rfl ?_
                                          refine ev_do i234_646 rfl ?_
                                          refine ev_do i234_647 rfl ?_
                                          refine ev_do i234_648 rfl ?_
                                          refine ev_do i234_649 rfl ?_
                                          obtain ⟨v_156, ev_156, hf⟩ := x_bind hf
                                          refine sh_sld i234_650 ev_156 ?_
                                          obtain ⟨_, eu_162, hf⟩ := x_bind hf
                                          obtain ⟨r_157, er_157, hf⟩ := x_bind hf
                                          refine sh_inv (as := [.int v_156]) (z := (some (.int r_157.1), r_157.2)) i234_651 v234_87 (Or.inl ⟨by decide, rfl⟩) m130 rfl (Nat.le_of_ble_eq_true rfl) eu_162 (fn130_call (by omega) er_157) ?_
                                          refine sh_aload (i' := 2) (n := 1) i234_654 (Or.inr ⟨rfl, by decide⟩) rfl ?_
                                          refine ev_do i234_655 rfl ?_
                                          refine ev_do i234_656 rfl ?_
                                          refine ev_do i234_657 rfl ?_
                                          refine ev_do i234_658 rfl ?_
                                          obtain ⟨v_158, ev_158, hf⟩ := x_bind hf
                                          refine sh_sld i234_659 ev_158 ?_
                                          obtain ⟨_, eu_161, hf⟩ := x_bind hf
                                          obtain ⟨r_159, er_159, hf⟩ := x_bind hf
                                          refine sh_inv (as := [.int v_158]) (z := (some (.int r_159.1), r_159.2)) i234_660 v234_90 (Or.inl ⟨by decide, rfl⟩) m224 rfl (Nat.le_of_ble_eq_true rfl) eu_161 (fn224_call (by omega) er_159) ?_
                                          refine ev_icmp (t := 724) i234_663 rfl (fun c_160 => ?_) (fun c_160 => ?_)
                                          · replace hf := x_pos (show r_157.1 = r_159.1 from c_160) hf
                                            exact j234_724_ok hd ih hf
                                          · replace hf := x_neg (show ¬ r_157.1 = r_159.1 from c_160) hf
                                            refine ev_do i234_666 rfl ?_
                                            obtain rfl := Option.some.inj hf
                                            exact sh_iret i234_667 m234 rfl (by decide)
                                        · replace hf := x_neg c_155 hf
                                          by_cases c_163 : (v_2 &&& 31) = 18
                                          · replace hf := x_pos c_163 hf
                                            refine sh_tswC (c := 18) (t := 668) i234_33 (show (v_2 &&& 31).toInt = 18 by rw [c_163]; rfl) (by decide) (by decide) rfl rfl ?_
                                            refine sh_aload (i' := 1) (n := 1) i234_668 (Or.inr ⟨rfl, by decide⟩) rfl ?_
                                            refine ev_do i234_669 rfl ?_
                                            refine ev_do i234_670 rfl ?_
                                            refine ev_do i234_671 rfl ?_
                                            refine ev_do i234_672 rfl ?_
                                            obtain ⟨v_164, ev_164, hf⟩ := x_bind hf
                                            refine sh_sld i234_673 ev_164 ?_
                                            refine ev_do i234_674 rfl ?_
                                            refine ev_do i234_675 rfl ?_
                                            refine ev_do i234_676 rfl ?_
                                            refine ev_do i234_677 rfl ?_
                                            obtain ⟨v_165, ev_165, hf⟩ := x_bind hf
                                            refine sh_sld i234_678 ev_165 ?_
                                            obtain ⟨_, eu_172, hf⟩ := x_bind hf
                                            obtain ⟨r_166, er_166, hf⟩ := x_bind hf
                                            refine sh_inv (as := [.int v_165, .int v_164]) (z := (some (.int r_166.1), r_166.2)) i234_679 v234_91 (Or.inl ⟨by decide, rfl⟩) m131 rfl (Nat.le_of_ble_eq_true rfl) eu_172 (fn131_call (by omega) er_166) ?_
                                            refine sh_aload (i' := 2) (n := 1) i234_682 (Or.inr ⟨rfl, by decide⟩) rfl ?_
                                            refine ev_do i234_683 rfl ?_
                                            refine ev_do i234_684 rfl ?_
                                            refine ev_do i234_685 rfl ?_
                                            refine ev_do i234_686 rfl ?_
                                            obtain ⟨v_167, ev_167, hf⟩ := x_bind hf
                                            refine sh_sld i234_687 ev_167 ?_
                                            refine ev_do i234_688 rfl ?_
                                            refine ev_do i234_689 rfl ?_
                                            refine ev_do i234_690 rfl ?_
                                            refine ev_do i234_691 rfl ?_
                                            obtain ⟨v_168, ev_168, hf⟩ := x_bind hf
                                            refine sh_sld i234_692 ev_168 ?_
                                            obtain ⟨_, eu_171, hf⟩ := x_bind hf
                                            obtain ⟨r_169, er_169, hf⟩ := x_bind hf
                                            refine sh_inv (as := [.int v_168, .int v_167]) (z := (some (.int r_169.1), r_169.2)) i234_693 v234_94 (Or.inl ⟨by decide, rfl⟩) m225 rfl (Nat.le_of_ble_eq_true rfl) eu_171 (fn225_call (by omega) er_169) ?_
                                            refine ev_icmp (t := 724) i234_696 rfl (fun c_170 => ?_) (fun c_170 => ?_)
                                            · replace hf := x_pos (show r_166.1 = r_169.1 from c_170) hf
                                              exact j234_724_ok hd ih hf
                                            · replace hf := x_neg (show ¬ r_166.1 = r_169.1 from c_170) hf
                                              refine ev_do i234_699 rfl ?_
                                              obtain rfl := Option.some.inj hf
                                              exact sh_iret i234_700 m234 rfl (by decide)
                                          · replace hf := x_neg c_163 hf
                                            by_cases c_173 : (v_2 &&& 31) = 19
                                            · replace hf := x_pos c_173 hf
                                              refine sh_tswC (c := 19) (t := 701) i234_33 (show (v_2 &&& 31).toInt = 19 by rw [c_173]; rfl) (by decide) (by decide) rfl rfl ?_
                                              refine sh_aload (i' := 1) (n := 1) i234_701 (Or.inr ⟨rfl, by decide⟩) rfl ?_
                                              refine ev_do i234_702 rfl ?_
                                              refine ev_do i234_703 rfl ?_
                                              refine ev_do i234_704 rfl ?_
                                              refine ev_do i234_705 rfl ?_
                                              obtain ⟨v_174, ev_174, hf⟩ := x_bind hf
                                              refine sh_sld i234_706 ev_174 ?_
                                              obtain ⟨_, eu_180, hf⟩ := x_bind hf
                                              obtain ⟨r_175, er_175, hf⟩ := x_bind hf
                                              refine sh_inv (as := [.int v_174]) (z := (some (.int r_175.1), r_175.2)) i234_707 v234_95 (Or.inl ⟨by decide, rfl⟩) m132 rfl (Nat.le_of_ble_eq_true rfl) eu_180 (fn132_call (by omega) er_175) ?_
                                              refine sh_aload (i' := 2) (n := 1) i234_710 (Or.inr ⟨rfl, by decide⟩) rfl ?_
                                              refine ev_do i234_711 rfl ?_
                                              refine ev_do i234_712 rfl ?_
                                              refine ev_do i234_713 rfl ?_
                                              refine ev_do i234_714 rfl ?_
                                              obtain ⟨v_176, ev_176, hf⟩ := x_bind hf
                                              refine sh_sld i234_715 ev_176 ?_
                                              obtain ⟨_, eu_179, hf⟩ := x_bind hf
                                              obtain ⟨r_177, er_177, hf⟩ := x_bind hf
                                              refine sh_inv (as := [.int v_176]) (z := (some (.int r_177.1), r_177.2)) i234_716 v234_98 (Or.inl ⟨by decide, rfl⟩) m226 rfl (Nat.le_of_ble_eq_true rfl) eu_179 (fn226_call (by omega) er_177) ?_
                                              refine ev_icmp (t := 724) i234_719 rfl (fun c_178 => ?_) (fun c_178 => ?_)
                                              · replace hf := x_pos (show r_175.1 = r_177.1 from c_178) hf
                                                exact j234_724_ok hd ih hf
                                              · replace hf := x_neg (show ¬ r_175.1 = r_177.1 from c_178) hf
                                                refine ev_do i234_722 rfl ?_
                                                obtain rfl := Option.some.inj hf
                                                exact sh_iret i234_723 m234 rfl (by decide)
                                            · replace hf := x_neg c_173 hf
                                              have nc_3 : (v_2 &&& 31).toInt ≠ 0 := fun h9 => c_3 (Int32.toInt_inj.mp h9)
                                              have nc_19 : (v_2 &&& 31).toInt ≠ 1 := fun h9 => c_19 (Int32.toInt_inj.mp h9)
                                              have nc_27 : (v_2 &&& 31).toInt ≠ 2 := fun h9 => c_27 (Int32.toInt_inj.mp h9)
                                              have nc_35 : (v_2 &&& 31).toInt ≠ 3 := fun h9 => c_35 (Int32.toInt_inj.mp h9)
                                              have nc_39 : (v_2 &&& 31).toInt ≠ 4 := fun h9 => c_39 (Int32.toInt_inj.mp h9)
                                              have nc_47 : (v_2 &&& 31).toInt ≠ 5 := fun h9 => c_47 (Int32.toInt_inj.mp h9)
                                              have nc_55 : (v_2 &&& 31).toInt ≠ 6 := fun h9 => c_55 (Int32.toInt_inj.mp h9)
                                              have nc_61 : (v_2 &&& 31).toInt ≠ 7 := fun h9 => c_61 (Int32.toInt_inj.mp h9)
                                              have nc_69 : (v_2 &&& 31).toInt ≠ 8 := fun h9 => c_69 (Int32.toInt_inj.mp h9)
                                              have nc_79 : (v_2 &&& 31).toInt ≠ 9 := fun h9 => c_79 (Int32.toInt_inj.mp h9)
                                              have nc_91 : (v_2 &&& 31).toInt ≠ 10 := fun h9 => c_91 (Int32.toInt_inj.mp h9)
                                              have nc_103 : (v_2 &&& 31).toInt ≠ 11 := fun h9 => c_103 (Int32.toInt_inj.mp h9)
                                              have nc_111 : (v_2 &&& 31).toInt ≠ 12 := fun h9 => c_111 (Int32.toInt_inj.mp h9)
                                              have nc_123 : (v_2 &&& 31).toInt ≠ 13 := fun h9 => c_123 (Int32.toInt_inj.mp h9)
                                              have nc_131 : (v_2 &&& 31).toInt ≠ 14 := fun h9 => c_131 (Int32.toInt_inj.mp h9)
                                              have nc_139 : (v_2 &&& 31).toInt ≠ 15 := fun h9 => c_139 (Int32.toInt_inj.mp h9)
                                              have nc_147 : (v_2 &&& 31).toInt ≠ 16 := fun h9 => c_147 (Int32.toInt_inj.mp h9)
                                              have nc_155 : (v_2 &&& 31).toInt ≠ 17 := fun h9 => c_155 (Int32.toInt_inj.mp h9)
                                              have nc_163 : (v_2 &&& 31).toInt ≠ 18 := fun h9 => c_163 (Int32.toInt_inj.mp h9)
                                              have nc_173 : (v_2 &&& 31).toInt ≠ 19 := fun h9 => c_173 (Int32.toInt_inj.mp h9)
                                              refine sh_tswD (t := 724) i234_33 (show (v_2 &&& 31).toInt < 0 ∨ 19 < (v_2 &&& 31).toInt by omega) rfl ?_
                                              exact j234_724_ok hd ih hf
def fn234 (xs : List Int32)  (h : xH) : Option (Int32 × xH) := (some (xnew h (10, [.null, .null, .null, .null, .null, .null, .null, .null]))).bind fun h_1 => (xcv h_1 (some h.1) 10).bind fun _ => (fn111 (some h.1) h_1).bind fun h_2 => (some (xnew h_2 (11, [.null, .int 0, .int 0, .null, .null, .null, .null, .null, .null, .null, .null, .null, .null, .null, .null, .null, .null, .null, .null, .null, .null, .null, .null, .null, .null, .null, .null, .null, .null, .null, .null, .int 0, .int 0, .int 0, .int 0, .int 0, .int 0, .int 0, .int 0, .int 0, .int 0, .int 0, .int 0, .int 0, .null, .int 0, .null, .int 0, .int 0, .int 0, .null, .int 0, .null, .int 0, .null, .int 0, .int 0, .int 0, .null, .int 0, .null, .int 0, .null, .int 0, .null, .null, .null, .null, .int 0, .null, .null, .null, .null, .int 0]))).bind fun h_3 => (xcv h_3 (some h_2.1) 11).bind fun _ => (fn140 (some h_2.1) h_3).bind fun h_4 => l234_18 xs xFuel (some h.1) (some h_2.1) 0 h_4
theorem fn234_call {xs : List Int32} {d : Nat} (hd : 70 ≤ d)  {h : xH} {r : (Int32 × xH)} (hf : fn234 xs  h = some r) : xCall (xTa xs) d 234 [.retAddr 0] h (some (.int r.1), r.2) := by
  obtain ⟨d, rfl⟩ : ∃ d2, d = d2 + 1 := ⟨d - 1, by omega⟩
  replace hd : 69 ≤ d := by omega
  refine call_of2 (fl := [.retAddr 0]) (Ls := [.retAddr 0, .float 0, .float 0, .float 0]) m234 (by simp [xfl, xrv_cat, xc_i, xc_j, xc_a, xc_f]) (Nat.le_of_ble_eq_true rfl) rfl ?_
  unfold fn234 at hf
  obtain ⟨h_1, eh_1, hf⟩ := x_bind hf
  refine sh_new (fs := [.null, .null, .null, .null, .null, .null, .null, .null]) i234_0 c234_7 (by decide) rfl ?_
  rw [Option.some.inj eh_1]
  refine sh_dup i234_3 (xrv_cat (some h.1)) ?_
  obtain ⟨_, eu_6, hf⟩ := x_bind hf
  obtain ⟨h_2, eh_2, hf⟩ := x_bind hf
  refine sh_inv (as := []) (z := (none, h_2)) i234_4 v234_9 (Or.inr ⟨by decide, rfl⟩) m111 rfl (by simp [xcat, xrv_cat, xc_i, xc_j, xc_a, xc_f]) eu_6 (fn111_call (by omega) eh_2) ?_
  refine sh_astore (i' := 1) (n := 1) i234_7 (Or.inr ⟨rfl, by decide⟩) (xokst_of (Nat.le_of_ble_eq_true rfl) rfl) ?_
  obtain ⟨h_3, eh_3, hf⟩ := x_bind hf
  refine sh_new (fs := [.null, .int 0, .int 0, .null, .null, .null, .null, .null, .null, .null, .null, .null, .null, .null, .null, .null, .null, .null, .null, .null, .null, .null, .null, .null, .null, .null, .null, .null, .null, .null, .null, .int 0, .int 0, .int 0, .int 0, .int 0, .int 0, .int 0, .int 0, .int 0, .int 0, .int 0, .int 0, .int 0, .null, .int 0, .null, .int 0, .int 0, .int 0, .null, .int 0, .null, .int 0, .null, .int 0, .int 0, .int 0, .null, .int 0, .null, .int 0, .null, .int 0, .null, .null, .null, .null, .int 0, .null, .null, .null, .null, .int 0]) i234_8 c234_10 (by decide) rfl ?_
  rw [Option.some.inj eh_3]
  refine sh_dup i234_11 (xrv_cat (some h_2.1)) ?_
  obtain ⟨_, eu_5, hf⟩ := x_bind hf
  obtain ⟨h_4, eh_4, hf⟩ := x_bind hf
  refine sh_inv (as := []) (z := (none, h_4)) i234_12 v234_12 (Or.inr ⟨by decide, rfl⟩) m140 rfl (by simp [xcat, xrv_cat, xc_i, xc_j, xc_a, xc_f]) eu_5 (fn140_call (by omega) eh_4) ?_
  refine sh_astore (i' := 2) (n := 1) i234_15 (Or.inr ⟨rfl, by decide⟩) (xokst_of (Nat.le_of_ble_eq_true rfl) (xrv_cat (some h.1))) ?_
  refine ev_do i234_16 rfl ?_
  refine sh_istore (i' := 3) (n := 1) i234_17 (Or.inr ⟨rfl, by decide⟩) (xokst_of (Nat.le_of_ble_eq_true rfl) (xrv_cat (some h_2.1))) ?_
  exact l234_18_ok hd xFuel hf
end
