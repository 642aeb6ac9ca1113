section
def l211_283 (k103 : Option Nat → Int32 → Int32 → Int32 → Int32 → Int32 → Int32 → Int32 → Int32 → Int32 → xH → Option xH) (k257 : Option Nat → Int32 → Int32 → Int32 → Int32 → Int32 → Int32 → Int32 → Int32 → Int32 → Int32 → Int32 → Int32 → xH → Option xH) : Nat → Option Nat → Int32 → Int32 → Int32 → Int32 → Int32 → Int32 → Int32 → Int32 → Int32 → Int32 → Int32 → Int32 → Int32 → xH → Option xH
  | 0 => fun _ _ _ _ _ _ _ _ _ _ _ _ _ _ _ => none
  | n + 1 => fun o0 x1 x2 x3 x4 x5 x6 x7 x8 x9 x10 x11 x12 x13 h => (xcv h o0 11).bind fun _ => (fn208 o0 x12 h).bind fun r_1 => (if r_1.1 ≤ x13 then k257 o0 x1 x2 x3 x4 x5 x6 x7 x8 x9 x10 x11 (x12 + 1) r_1.2 else (xgR r_1.2 o0 11 60).bind fun a_3 => (xgR r_1.2 o0 11 62).bind fun a_4 => (xaI r_1.2 13 a_4 x12).bind fun v_5 => (xaI r_1.2 13 a_3 (v_5 + x13)).bind fun v_6 => (xcv r_1.2 o0 11).bind fun _ => (fn195 o0 v_6 r_1.2).bind fun h_7 => l211_283 k103 k257 n o0 x1 x2 x3 x4 x5 x6 x7 x8 x9 x10 x11 x12 (x13 + 1) h_7)
theorem l211_283_ok {xs : List Int32} {d : Nat} (hd : 6 ≤ d) {k103 : Option Nat → Int32 → Int32 → Int32 → Int32 → Int32 → Int32 → Int32 → Int32 → Int32 → xH → Option xH} {k257 : Option Nat → Int32 → Int32 → Int32 → Int32 → Int32 → Int32 → Int32 → Int32 → Int32 → Int32 → Int32 → Int32 → xH → Option xH} (hk103 : ∀ {u10 : Value} {u11 : Value} {u12 : Value} {u13 : Value} {o0 : Option Nat} {x1 : Int32} {x2 : Int32} {x3 : Int32} {x4 : Int32} {x5 : Int32} {x6 : Int32} {x7 : Int32} {x8 : Int32} {x9 : Int32} {h : xH} {r : xH}, u10.category = 1 → u11.category = 1 → u12.category = 1 → u13.category = 1 → k103 o0 x1 x2 x3 x4 x5 x6 x7 x8 x9 h = some r → xEv (xTa xs) d 211 (103, [xrv o0, .int x1, .int x2, .int x3, .int x4, .int x5, .int x6, .int x7, .int x8, .int x9, u10, u11, u12, u13], [], h) (none, r)) (hk257 : ∀ {u13 : Value} {o0 : Option Nat} {x1 : Int32} {x2 : Int32} {x3 : Int32} {x4 : Int32} {x5 : Int32} {x6 : Int32} {x7 : Int32} {x8 : Int32} {x9 : Int32} {x10 : Int32} {x11 : Int32} {x12 : Int32} {h : xH} {r : xH}, u13.category = 1 → k257 o0 x1 x2 x3 x4 x5 x6 x7 x8 x9 x10 x11 x12 h = some r → xEv (xTa xs) d 211 (257, [xrv o0, .int x1, .int x2, .int x3, .int x4, .int x5, .int x6, .int x7, .int x8, .int x9, .int x10, .int x11, .int x12, u13], [], h) (none, r)) : ∀ (n : Nat) {o0 : Option Nat} {x1 : Int32} {x2 : Int32} {x3 : Int32} {x4 : Int32} {x5 : Int32} {x6 : Int32} {x7 : Int32} {x8 : Int32} {x9 : Int32} {x10 : Int32} {x11 : Int32} {x12 : Int32} {x13 : Int32} {h : xH} {r : xH}, l211_283 k103 k257 n o0 x1 x2 x3 x4 x5 x6 x7 x8 x9 x10 x11 x12 x13 h = some r → xEv (xTa xs) d 211 (283, [xrv o0, .int x1, .int x2, .int x3, .int x4, .int x5, .int x6, .int x7, .int x8, .int x9, .int x10, .int x11, .int x12, .int x13], [], h) (none, r) := by
  intro n
  induction n with
  | zero => intros; rename_i hf; cases hf
  | succ n ih =>
    intro o0 x1 x2 x3 x4 x5 x6 x7 x8 x9 x10 x11 x12 x13 h r hf
    replace hf : ((xcv h o0 11).bind fun _ => (fn208 o0 x12 h).bind fun r_1 => (if r_1.1 ≤ x13 then k257 o0 x1 x2 x3 x4 x5 x6 x7 x8 x9 x10 x11 (x12 + 1) r_1.2 else (xgR r_1.2 o0 11 60).bind fun a_3 => (xgR r_1.2 o0 11 62).bind fun a_4 => (xaI r_1.2 13 a_4 x12).bind fun v_5 => (xaI r_1.2 13 a_3 (v_5 + x13)).bind fun v_6 => (xcv r_1.2 o0 11).bind fun _ => (fn195 o0 v_6 r_1.2).bind fun h_7 => l211_283 k103 k257 n o0 x1 x2 x3 x4 x5 x6 x7 x8 x9 x10 x11 x12 (x13 + 1) h_7)) = some r := hf
    refine ev_do i211_283 rfl ?_
    refine sh_aload (i' := 0) (n := 1) i211_285 (Or.inr ⟨rfl, by decide⟩) rfl ?_
    refine ev_do i211_286 rfl ?_
    obtain ⟨_, eu_9, hf⟩ := x_bind hf
    obtain ⟨r_1, er_1, hf⟩ := x_bind hf
    refine sh_inv (as := [.int x12]) (z := (some (.int r_1.1), r_1.2)) i211_288 v211_402 (Or.inl ⟨by decide, rfl⟩) m208 rfl (Nat.le_of_ble_eq_true rfl) eu_9 (fn208_call (by omega) er_1) ?_
    refine ev_icmp (t := 319) i211_291 rfl (fun c_2 => ?_) (fun c_2 => ?_)
    · replace hf := x_pos (show r_1.1 ≤ x13 from c_2) hf
      refine sh_inc (i' := 12) i211_319 rfl (xokst_of (Nat.le_of_ble_eq_true rfl) rfl) rfl ?_
      refine sh_goto (t := 257) i211_322 rfl ?_
      exact hk257 rfl hf
    · replace hf := x_neg (show ¬ r_1.1 ≤ x13 from c_2) hf
      refine sh_aload (i' := 0) (n := 1) i211_294 (Or.inr ⟨rfl, by decide⟩) rfl ?_
      refine sh_aload (i' := 0) (n := 1) i211_295 (Or.inr ⟨rfl, by decide⟩) rfl ?_
      obtain ⟨a_3, ea_3, hf⟩ := x_bind hf
      refine sh_getR i211_296 f211_116 ea_3 ?_
      refine sh_aload (i' := 0) (n := 1) i211_299 (Or.inr ⟨rfl, by decide⟩) rfl ?_
      obtain ⟨a_4, ea_4, hf⟩ := x_bind hf
      refine sh_getR i211_300 f211_119 ea_4 ?_
      refine ev_do i211_303 rfl ?_
      obtain ⟨v_5, ev_5, hf⟩ := x_bind hf
      refine sh_aldI (tg := 13) i211_305 (Or.inl ⟨rfl, rfl⟩) ev_5 ?_
      refine ev_do i211_306 rfl ?_
      refine ev_do i211_308 rfl ?_
      obtain ⟨v_6, ev_6, hf⟩ := x_bind hf
      refine sh_aldI (tg := 13) i211_309 (Or.inl ⟨rfl, rfl⟩) ev_6 ?_
      obtain ⟨_, eu_8, hf⟩ := x_bind hf
      obtain ⟨h_7, eh_7, hf⟩ := x_bind hf
      refine sh_inv (as := [.int v_6]) (z := (none, h_7)) i211_310 v211_359 (Or.inl ⟨by decide, rfl⟩) m195 rfl (Nat.le_of_ble_eq_true rfl) eu_8 (fn195_call (by omega) eh_7) ?_
      refine sh_inc (i' := 13) i211_313 rfl (xokst_of (Nat.le_of_ble_eq_true rfl) rfl) rfl ?_
      refine sh_goto (t := 283) i211_316 rfl ?_
      exact ih hf
def j211_280 (k103 : Option Nat → Int32 → Int32 → Int32 → Int32 → Int32 → Int32 → Int32 → Int32 → Int32 → xH → Option xH) (k257 : Option Nat → Int32 → Int32 → Int32 → Int32 → Int32 → Int32 → Int32 → Int32 → Int32 → Int32 → Int32 → Int32 → xH → Option xH) (o0 : Option Nat) (x1 : Int32) (x2 : Int32) (x3 : Int32) (x4 : Int32) (x5 : Int32) (x6 : Int32) (x7 : Int32) (x8 : Int32) (x9 : Int32) (x10 : Int32) (x11 : Int32) (x12 : Int32) (h : xH) : Option xH := l211_283 k103 k257 xFuel o0 x1 x2 x3 x4 x5 x6 x7 x8 x9 x10 x11 x12 0 h
theorem j211_280_ok {xs : List Int32} {d : Nat} (hd : 6 ≤ d) {k103 : Option Nat → Int32 → Int32 → Int32 → Int32 → Int32 → Int32 → Int32 → Int32 → Int32 → xH → Option xH} {k257 : Option Nat → Int32 → Int32 → Int32 → Int32 → Int32 → Int32 → Int32 → Int32 → Int32 → Int32 → Int32 → Int32 → xH → Option xH} (hk103 : ∀ {u10 : Value} {u11 : Value} {u12 : Value} {u13 : Value} {o0 : Option Nat} {x1 : Int32} {x2 : Int32} {x3 : Int32} {x4 : Int32} {x5 : Int32} {x6 : Int32} {x7 : Int32} {x8 : Int32} {x9 : Int32} {h : xH} {r : xH}, u10.category = 1 → u11.category = 1 → u12.category = 1 → u13.category = 1 → k103 o0 x1 x2 x3 x4 x5 x6 x7 x8 x9 h = some r → xEv (xTa xs) d 211 (103, [xrv o0, .int x1, .int x2, .int x3, .int x4, .int x5, .int x6, .int x7, .int x8, .int x9, u10, u11, u12, u13], [], h) (none, r)) (hk257 : ∀ {u13 : Value} {o0 : Option Nat} {x1 : Int32} {x2 : Int32} {x3 : Int32} {x4 : Int32} {x5 : Int32} {x6 : Int32} {x7 : Int32} {x8 : Int32} {x9 : Int32} {x10 : Int32} {x11 : Int32} {x12 : Int32} {h : xH} {r : xH}, u13.category = 1 → k257 o0 x1 x2 x3 x4 x5 x6 x7 x8 x9 x10 x11 x12 h = some r → xEv (xTa xs) d 211 (257, [xrv o0, .int x1, .int x2, .int x3, .int x4, .int x5, .int x6, .int x7, .int x8, .int x9, .int x10, .int x11, .int x12, u13], [], h) (none, r)) {u13 : Value} {o0 : Option Nat} {x1 : Int32} {x2 : Int32} {x3 : Int32} {x4 : Int32} {x5 : Int32} {x6 : Int32} {x7 : Int32} {x8 : Int32} {x9 : Int32} {x10 : Int32} {x11 : Int32} {x12 : Int32} {h : xH} {r : xH} (hu13 : u13.category = 1) (hf : j211_280 k103 k257 o0 x1 x2 x3 x4 x5 x6 x7 x8 x9 x10 x11 x12 h = some r) : xEv (xTa xs) d 211 (280, [xrv o0, .int x1, .int x2, .int x3, .int x4, .int x5, .int x6, .int x7, .int x8, .int x9, .int x10, .int x11, .int x12, u13], [], h) (none, r) := by
  unfold j211_280 at hf
  refine ev_do i211_280 rfl ?_
  refine sh_istore (i' := 13) (n := 2) i211_281 (Or.inl rfl) (xokst_of (Nat.le_of_ble_eq_true rfl) rfl) ?_
  exact l211_283_ok hd hk103 hk257 xFuel hf
def l211_257 (k103 : Option Nat → Int32 → Int32 → Int32 → Int32 → Int32 → Int32 → Int32 → Int32 → Int32 → xH → Option xH) : Nat → Option Nat → Int32 → Int32 → Int32 → Int32 → Int32 → Int32 → Int32 → Int32 → Int32 → Int32 → Int32 → Int32 → xH → Option xH
  | 0 => fun _ _ _ _ _ _ _ _ _ _ _ _ _ _ => none
  | n + 1 => fun o0 x1 x2 x3 x4 x5 x6 x7 x8 x9 x10 x11 x12 h => (if (x8 + x11) ≤ x12 then (xcv h o0 11).bind fun _ => (fn198 o0 h).bind fun h_2 => k103 o0 x1 x2 x3 x4 x5 x6 x7 (x8 + x11) 0 h_2 else (if x12 ≤ x8 then j211_280 k103 (l211_257 k103 n) o0 x1 x2 x3 x4 x5 x6 x7 x8 x9 x10 x11 x12 h else (xcv h o0 11).bind fun _ => (fn195 o0 32 h).bind fun h_5 => j211_280 k103 (l211_257 k103 n) o0 x1 x2 x3 x4 x5 x6 x7 x8 x9 x10 x11 x12 h_5))
theorem l211_257_ok {xs : List Int32} {d : Nat} (hd : 6 ≤ d) {k103 : Option Nat → Int32 → Int32 → Int32 → Int32 → Int32 → Int32 → Int32 → Int32 → Int32 → xH → Option xH} (hk103 : ∀ {u10 : Value} {u11 : Value} {u12 : Value} {u13 : Value} {o0 : Option Nat} {x1 : Int32} {x2 : Int32} {x3 : Int32} {x4 : Int32} {x5 : Int32} {x6 : Int32} {x7 : Int32} {x8 : Int32} {x9 : Int32} {h : xH} {r : xH}, u10.category = 1 → u11.category = 1 → u12.category = 1 → u13.category = 1 → k103 o0 x1 x2 x3 x4 x5 x6 x7 x8 x9 h = some r → xEv (xTa xs) d 211 (103, [xrv o0, .int x1, .int x2, .int x3, .int x4, .int x5, .int x6, .int x7, .int x8, .int x9, u10, u11, u12, u13], [], h) (none, r)) : ∀ (n : Nat) {u13 : Value} {o0 : Option Nat} {x1 : Int32} {x2 : Int32} {x3 : Int32} {x4 : Int32} {x5 : Int32} {x6 : Int32} {x7 : Int32} {x8 : Int32} {x9 : Int32} {x10 : Int32} {x11 : Int32} {x12 : Int32} {h : xH} {r : xH} (hu13 : u13.category = 1), l211_257 k103 n o0 x1 x2 x3 x4 x5 x6 x7 x8 x9 x10 x11 x12 h = some r → xEv (xTa xs) d 211 (257, [xrv o0, .int x1, .int x2, .int x3, .int x4, .int x5, .int x6, .int x7, .int x8, .int x9, .int x10, .int x11, .int x12, u13], [], h) (none, r) := by
  intro n
  induction n with
  | zero => intros; rename_i hf; cases hf
  | succ n ih =>
    intro u13 o0 x1 x2 x3 x4 x5 x6 x7 x8 x9 x10 x11 x12 h r hu13 hf
    replace hf : ((if (x8 + x11) ≤ x12 then (xcv h o0 11).bind fun _ => (fn198 o0 h).bind fun h_2 => k103 o0 x1 x2 x3 x4 x5 x6 x7 (x8 + x11) 0 h_2 else (if x12 ≤ x8 then j211_280 k103 (l211_257 k103 n) o0 x1 x2 x3 x4 x5 x6 x7 x8 x9 x10 x11 x12 h else (xcv h o0 11).bind fun _ => (fn195 o0 32 h).bind fun h_5 => j211_280 k103 (l211_257 k103 n) o0 x1 x2 x3 x4 x5 x6 x7 x8 x9 x10 x11 x12 h_5))) = some r := hf
    refine ev_do i211_257 rfl ?_
    refine ev_do i211_259 rfl ?_
    refine ev_do i211_261 rfl ?_
    refine ev_do i211_263 rfl ?_
    refine ev_icmp (t := 325) i211_264 rfl (fun c_1 => ?_) (fun c_1 => ?_)
    · replace hf := x_pos (show (x8 + x11) ≤ x12 from c_1) hf
      refine sh_aload (i' := 0) (n := 1) i211_325 (Or.inr ⟨rfl, by decide⟩) rfl ?_
      obtain ⟨_, eu_3, hf⟩ := x_bind hf
      obtain ⟨h_2, eh_2, hf⟩ := x_bind hf
      refine sh_inv (as := []) (z := (none, h_2)) i211_326 v211_371 (Or.inl ⟨by decide, rfl⟩) m198 rfl (Nat.le_of_ble_eq_true rfl) eu_3 (fn198_call (by omega) eh_2) ?_
      refine ev_do i211_329 rfl ?_
      refine ev_do i211_331 rfl ?_
      refine ev_do i211_333 rfl ?_
      refine sh_istore (i' := 8) (n := 2) i211_334 (Or.inl rfl) (xokst_of (Nat.le_of_ble_eq_true rfl) rfl) ?_
      refine ev_do i211_336 rfl ?_
      refine sh_istore (i' := 9) (n := 2) i211_337 (Or.inl rfl) (xokst_of (Nat.le_of_ble_eq_true rfl) rfl) ?_
      refine sh_goto (t := 103) i211_339 rfl ?_
      exact hk103 rfl rfl rfl hu13 hf
    · replace hf := x_neg (show ¬ (x8 + x11) ≤ x12 from c_1) hf
      refine ev_do i211_267 rfl ?_
      refine ev_do i211_269 rfl ?_
      refine ev_icmp (t := 280) i211_271 rfl (fun c_4 => ?_) (fun c_4 => ?_)
      · replace hf := x_pos (show x12 ≤ x8 from c_4) hf
        exact j211_280_ok hd hk103 ih hu13 hf
      · replace hf := x_neg (show ¬ x12 ≤ x8 from c_4) hf
        refine sh_aload (i' := 0) (n := 1) i211_274 (Or.inr ⟨rfl, by decide⟩) rfl ?_
        refine ev_do i211_275 rfl ?_
        obtain ⟨_, eu_6, hf⟩ := x_bind hf
        obtain ⟨h_5, eh_5, hf⟩ := x_bind hf
        refine sh_inv (as := [.int 32]) (z := (none, h_5)) i211_277 v211_359 (Or.inl ⟨by decide, rfl⟩) m195 rfl (Nat.le_of_ble_eq_true rfl) eu_6 (fn195_call (by omega) eh_5) ?_
        exact j211_280_ok hd hk103 ih hu13 hf
def j211_251 (k103 : Option Nat → Int32 → Int32 → Int32 → Int32 → Int32 → Int32 → Int32 → Int32 → Int32 → xH → Option xH) (o0 : Option Nat) (x1 : Int32) (x2 : Int32) (x3 : Int32) (x4 : Int32) (x5 : Int32) (x6 : Int32) (x7 : Int32) (x8 : Int32) (x9 : Int32) (x10 : Int32) (x11 : Int32) (s0 : Int32) (h : xH) : Option xH := l211_257 k103 xFuel o0 x1 x2 x3 x4 x5 x6 x7 x8 x9 x10 s0 x8 h
theorem j211_251_ok {xs : List Int32} {d : Nat} (hd : 6 ≤ d) {k103 : Option Nat → Int32 → Int32 → Int32 → Int32 → Int32 → Int32 → Int32 → Int32 → Int32 → xH → Option xH} (hk103 : ∀ {u10 : Value} {u11 : Value} {u12 : Value} {u13 : Value} {o0 : Option Nat} {x1 : Int32} {x2 : Int32} {x3 : Int32} {x4 : Int32} {x5 : Int32} {x6 : Int32} {x7 : Int32} {x8 : Int32} {x9 : Int32} {h : xH} {r : xH}, u10.category = 1 → u11.category = 1 → u12.category = 1 → u13.category = 1 → k103 o0 x1 x2 x3 x4 x5 x6 x7 x8 x9 h = some r → xEv (xTa xs) d 211 (103, [xrv o0, .int x1, .int x2, .int x3, .int x4, .int x5, .int x6, .int x7, .int x8, .int x9, u10, u11, u12, u13], [], h) (none, r)) {u12 : Value} {u13 : Value} {o0 : Option Nat} {x1 : Int32} {x2 : Int32} {x3 : Int32} {x4 : Int32} {x5 : Int32} {x6 : Int32} {x7 : Int32} {x8 : Int32} {x9 : Int32} {x10 : Int32} {x11 : Int32} {s0 : Int32} {h : xH} {r : xH} (hu12 : u12.category = 1) (hu13 : u13.category = 1) (hf : j211_251 k103 o0 x1 x2 x3 x4 x5 x6 x7 x8 x9 x10 x11 s0 h = some r) : xEv (xTa xs) d 211 (251, [xrv o0, .int x1, .int x2, .int x3, .int x4, .int x5, .int x6, .int x7, .int x8, .int x9, .int x10, .int x11, u12, u13], [.int s0], h) (none, r) := by
  unfold j211_251 at hf
  refine sh_istore (i' := 11) (n := 2) i211_251 (Or.inl rfl) (xokst_of (Nat.le_of_ble_eq_true rfl) rfl) ?_
  refine ev_do i211_253 rfl ?_
  refine sh_istore (i' := 12) (n := 2) i211_255 (Or.inl rfl) (xokst_of (Nat.le_of_ble_eq_true rfl) rfl) ?_
  exact l211_257_ok hd hk103 xFuel hu13 hf
def j211_225 (k103 : Option Nat → Int32 → Int32 → Int32 → Int32 → Int32 → Int32 → Int32 → Int32 → Int32 → xH → Option xH) (k138 : Option Nat → Int32 → Int32 → Int32 → Int32 → Int32 → Int32 → Int32 → Int32 → Int32 → Int32 → Int32 → xH → Option xH) (o0 : Option Nat) (x1 : Int32) (x2 : Int32) (x3 : Int32) (x4 : Int32) (x5 : Int32) (x6 : Int32) (x7 : Int32) (x8 : Int32) (x9 : Int32) (x10 : Int32) (x11 : Int32) (x12 : Int32) (x13 : Int32) (h : xH) : Option xH := k138 o0 x1 x2 x3 x4 x5 x6 x7 x8 x9 x10 (x11 + 1) h
theorem j211_225_ok {xs : List Int32} {d : Nat} (hd : 6 ≤ d) {k103 : Option Nat → Int32 → Int32 → Int32 → Int32 → Int32 → Int32 → Int32 → Int32 → Int32 → xH → Option xH} {k138 : Option Nat → Int32 → Int32 → Int32 → Int32 → Int32 → Int32 → Int32 → Int32 → Int32 → Int32 → Int32 → xH → Option xH} (hk103 : ∀ {u10 : Value} {u11 : Value} {u12 : Value} {u13 : Value} {o0 : Option Nat} {x1 : Int32} {x2 : Int32} {x3 : Int32} {x4 : Int32} {x5 : Int32} {x6 : Int32} {x7 : Int32} {x8 : Int32} {x9 : Int32} {h : xH} {r : xH}, u10.category = 1 → u11.category = 1 → u12.category = 1 → u13.category = 1 → k103 o0 x1 x2 x3 x4 x5 x6 x7 x8 x9 h = some r → xEv (xTa xs) d 211 (103, [xrv o0, .int x1, .int x2, .int x3, .int x4, .int x5, .int x6, .int x7, .int x8, .int x9, u10, u11, u12, u13], [], h) (none, r)) (hk138 : ∀ {u12 : Value} {u13 : Value} {o0 : Option Nat} {x1 : Int32} {x2 : Int32} {x3 : Int32} {x4 : Int32} {x5 : Int32} {x6 : Int32} {x7 : Int32} {x8 : Int32} {x9 : Int32} {x10 : Int32} {x11 : Int32} {h : xH} {r : xH}, u12.category = 1 → u13.category = 1 → k138 o0 x1 x2 x3 x4 x5 x6 x7 x8 x9 x10 x11 h = some r → xEv (xTa xs) d 211 (138, [xrv o0, .int x1, .int x2, .int x3, .int x4, .int x5, .int x6, .int x7, .int x8, .int x9, .int x10, .int x11, u12, u13], [], h) (none, r)) {o0 : Option Nat} {x1 : Int32} {x2 : Int32} {x3 : Int32} {x4 : Int32} {x5 : Int32} {x6 : Int32} {x7 : Int32} {x8 : Int32} {x9 : Int32} {x10 : Int32} {x11 : Int32} {x12 : Int32} {x13 : Int32} {h : xH} {r : xH} (hf : j211_225 k103 k138 o0 x1 x2 x3 x4 x5 x6 x7 x8 x9 x10 x11 x12 x13 h = some r) : xEv (xTa xs) d 211 (225, [xrv o0, .int x1, .int x2, .int x3, .int x4, .int x5, .int x6, .int x7, .int x8, .int x9, .int x10, .int x11, .int x12, .int x13], [], h) (none, r) := by
  unfold j211_225 at hf
  refine sh_inc (i' := 11) i211_225 rfl (xokst_of (Nat.le_of_ble_eq_true rfl) rfl) rfl ?_
  refine sh_goto (t := 138) i211_228 rfl ?_
  exact hk138 rfl rfl hf
def j211_222 (k103 : Option Nat → Int32 → Int32 → Int32 → Int32 → Int32 → Int32 → Int32 → Int32 → Int32 → xH → Option xH) (k138 : Option Nat → Int32 → Int32 → Int32 → Int32 → Int32 → Int32 → Int32 → Int32 → Int32 → Int32 → Int32 → xH → Option xH) (o0 : Option Nat) (x1 : Int32) (x2 : Int32) (x3 : Int32) (x4 : Int32) (x5 : Int32) (x6 : Int32) (x7 : Int32) (x8 : Int32) (x9 : Int32) (x10 : Int32) (x11 : Int32) (x12 : Int32) (x13 : Int32) (s0 : Option Nat) (s1 : Int32) (h : xH) : Option xH := (xcv h s0 11).bind fun _ => (fn195 s0 s1 h).bind fun h_1 => j211_225 k103 k138 o0 x1 x2 x3 x4 x5 x6 x7 x8 x9 x10 x11 x12 x13 h_1
theorem j211_222_ok {xs : List Int32} {d : Nat} (hd : 6 ≤ d) {k103 : Option Nat → Int32 → Int32 → Int32 → Int32 → Int32 → Int32 → Int32 → Int32 → Int32 → xH → Option xH} {k138 : Option Nat → Int32 → Int32 → Int32 → Int32 → Int32 → Int32 → Int32 → Int32 → Int32 → Int32 → Int32 → xH → Option xH} (hk103 : ∀ {u10 : Value} {u11 : Value} {u12 : Value} {u13 : Value} {o0 : Option Nat} {x1 : Int32} {x2 : Int32} {x3 : Int32} {x4 : Int32} {x5 : Int32} {x6 : Int32} {x7 : Int32} {x8 : Int32} {x9 : Int32} {h : xH} {r : xH}, u10.category = 1 → u11.category = 1 → u12.category = 1 → u13.category = 1 → k103 o0 x1 x2 x3 x4 x5 x6 x7 x8 x9 h = some r → xEv (xTa xs) d 211 (103, [xrv o0, .int x1, .int x2, .int x3, .int x4, .int x5, .int x6, .int x7, .int x8, .int x9, u10, u11, u12, u13], [], h) (none, r)) (hk138 : ∀ {u12 : Value} {u13 : Value} {o0 : Option Nat} {x1 : Int32} {x2 : Int32} {x3 : Int32} {x4 : Int32} {x5 : Int32} {x6 : Int32} {x7 : Int32} {x8 : Int32} {x9 : Int32} {x10 : Int32} {x11 : Int32} {h : xH} {r : xH}, u12.category = 1 → u13.category = 1 → k138 o0 x1 x2 x3 x4 x5 x6 x7 x8 x9 x10 x11 h = some r → xEv (xTa xs) d 211 (138, [xrv o0, .int x1, .int x2, .int x3, .int x4, .int x5, .int x6, .int x7, .int x8, .int x9, .int x10, .int x11, u12, u13], [], h) (none, r)) {o0 : Option Nat} {x1 : Int32} {x2 : Int32} {x3 : Int32} {x4 : Int32} {x5 : Int32} {x6 : Int32} {x7 : Int32} {x8 : Int32} {x9 : Int32} {x10 : Int32} {x11 : Int32} {x12 : Int32} {x13 : Int32} {s0 : Option Nat} {s1 : Int32} {h : xH} {r : xH} (hf : j211_222 k103 k138 o0 x1 x2 x3 x4 x5 x6 x7 x8 x9 x10 x11 x12 x13 s0 s1 h = some r) : xEv (xTa xs) d 211 (222, [xrv o0, .int x1, .int x2, .int x3, .int x4, .int x5, .int x6, .int x7, .int x8, .int x9, .int x10, .int x11, .int x12, .int x13], [.int s1, xrv s0], h) (none, r) := by
  unfold j211_222 at hf
  obtain ⟨_, eu_2, hf⟩ := x_bind hf
  obtain ⟨h_1, eh_1, hf⟩ := x_bind hf
  refine sh_inv (as := [.int s1]) (z := (none, h_1)) i211_222 v211_359 (Or.inl ⟨by decide, rfl⟩) m195 rfl (Nat.le_of_ble_eq_true rfl) eu_2 (fn195_call (by omega) eh_1) ?_
  exact j211_225_ok hd hk103 hk138 hf
def j211_202 (k103 : Option Nat → Int32 → Int32 → Int32 → Int32 → Int32 → Int32 → Int32 → Int32 → Int32 → xH → Option xH) (k138 : Option Nat → Int32 → Int32 → Int32 → Int32 → Int32 → Int32 → Int32 → Int32 → Int32 → Int32 → Int32 → xH → Option xH) (o0 : Option Nat) (x1 : Int32) (x2 : Int32) (x3 : Int32) (x4 : Int32) (x5 : Int32) (x6 : Int32) (x7 : Int32) (x8 : Int32) (x9 : Int32) (x10 : Int32) (x11 : Int32) (x12 : Int32) (s0 : Int32) (h : xH) : Option xH := (if s0 = 0 then (if x12 = 0 then j211_222 k103 k138 o0 x1 x2 x3 x4 x5 x6 x7 x8 x9 x10 x11 x12 s0 o0 32 h else j211_222 k103 k138 o0 x1 x2 x3 x4 x5 x6 x7 x8 x9 x10 x11 x12 s0 o0 45 h) else j211_225 k103 k138 o0 x1 x2 x3 x4 x5 x6 x7 x8 x9 x10 x11 x12 s0 h)
theorem j211_202_ok {xs : List Int32} {d : Nat} (hd : 6 ≤ d) {k103 : Option Nat → Int32 → Int32 → Int32 → Int32 → Int32 → Int32 → Int32 → Int32 → Int32 → xH → Option xH} {k138 : Option Nat → Int32 → Int32 → Int32 → Int32 → Int32 → Int32 → Int32 → Int32 → Int32 → Int32 → Int32 → xH → Option xH} (hk103 : ∀ {u10 : Value} {u11 : Value} {u12 : Value} {u13 : Value} {o0 : Option Nat} {x1 : Int32} {x2 : Int32} {x3 : Int32} {x4 : Int32} {x5 : Int32} {x6 : Int32} {x7 : Int32} {x8 : Int32} {x9 : Int32} {h : xH} {r : xH}, u10.category = 1 → u11.category = 1 → u12.category = 1 → u13.category = 1 → k103 o0 x1 x2 x3 x4 x5 x6 x7 x8 x9 h = some r → xEv (xTa xs) d 211 (103, [xrv o0, .int x1, .int x2, .int x3, .int x4, .int x5, .int x6, .int x7, .int x8, .int x9, u10, u11, u12, u13], [], h) (none, r)) (hk138 : ∀ {u12 : Value} {u13 : Value} {o0 : Option Nat} {x1 : Int32} {x2 : Int32} {x3 : Int32} {x4 : Int32} {x5 : Int32} {x6 : Int32} {x7 : Int32} {x8 : Int32} {x9 : Int32} {x10 : Int32} {x11 : Int32} {h : xH} {r : xH}, u12.category = 1 → u13.category = 1 → k138 o0 x1 x2 x3 x4 x5 x6 x7 x8 x9 x10 x11 h = some r → xEv (xTa xs) d 211 (138, [xrv o0, .int x1, .int x2, .int x3, .int x4, .int x5, .int x6, .int x7, .int x8, .int x9, .int x10, .int x11, u12, u13], [], h) (none, r)) {u13 : Value} {o0 : Option Nat} {x1 : Int32} {x2 : Int32} {x3 : Int32} {x4 : Int32} {x5 : Int32} {x6 : Int32} {x7 : Int32} {x8 : Int32} {x9 : Int32} {x10 : Int32} {x11 : Int32} {x12 : Int32} {s0 : Int32} {h : xH} {r : xH} (hu13 : u13.category = 1) (hf : j211_202 k103 k138 o0 x1 x2 x3 x4 x5 x6 x7 x8 x9 x10 x11 x12 s0 h = some r) : xEv (xTa xs) d 211 (202, [xrv o0, .int x1, .int x2, .int x3, .int x4, .int x5, .int x6, .int x7, .int x8, .int x9, .int x10, .int x11, .int x12, u13], [.int s0], h) (none, r) := by
  unfold j211_202 at hf
  refine sh_istore (i' := 13) (n := 2) i211_202 (Or.inl rfl) (xokst_of (Nat.le_of_ble_eq_true rfl) rfl) ?_
  refine ev_do i211_204 rfl ?_
  refine ev_if (t := 225) i211_206 rfl (fun c_1 => ?_) (fun c_1 => ?_)
  · replace hf := x_neg (show ¬ s0 = 0 from c_1) hf
    exact j211_225_ok hd hk103 hk138 hf
  · replace hf := x_pos (show s0 = 0 from Decidable.byContradiction (fun h9 => c_1 h9)) hf
    refine sh_aload (i' := 0) (n := 1) i211_209 (Or.inr ⟨rfl, by decide⟩) rfl ?_
    refine ev_do i211_210 rfl ?_
    refine ev_if (t := 220) i211_212 rfl (fun c_2 => ?_) (fun c_2 => ?_)
    · replace hf := x_pos (show x12 = 0 from c_2) hf
      refine ev_do i211_220 rfl ?_
      exact j211_222_ok hd hk103 hk138 hf
    · replace hf := x_neg (show ¬ x12 = 0 from c_2) hf
      refine ev_do i211_215 rfl ?_
      refine sh_goto (t := 222) i211_217 rfl ?_
      exact j211_222_ok hd hk103 hk138 hf
def j211_201 (k103 : Option Nat → Int32 → Int32 → Int32 → Int32 → Int32 → Int32 → Int32 → Int32 → Int32 → xH → Option xH) (k138 : Option Nat → Int32 → Int32 → Int32 → Int32 → Int32 → Int32 → Int32 → Int32 → Int32 → Int32 → Int32 → xH → Option xH) (o0 : Option Nat) (x1 : Int32) (x2 : Int32) (x3 : Int32) (x4 : Int32) (x5 : Int32) (x6 : Int32) (x7 : Int32) (x8 : Int32) (x9 : Int32) (x10 : Int32) (x11 : Int32) (x12 : Int32) (h : xH) : Option xH := j211_202 k103 k138 o0 x1 x2 x3 x4 x5 x6 x7 x8 x9 x10 x11 x12 0 h
theorem j211_201_ok {xs : List Int32} {d : Nat} (hd : 6 ≤ d) {k103 : Option Nat → Int32 → Int32 → Int32 → Int32 → Int32 → Int32 → Int32 → Int32 → Int32 → xH → Option xH} {k138 : Option Nat → Int32 → Int32 → Int32 → Int32 → Int32 → Int32 → Int32 → Int32 → Int32 → Int32 → Int32 → xH → Option xH} (hk103 : ∀ {u10 : Value} {u11 : Value} {u12 : Value} {u13 : Value} {o0 : Option Nat} {x1 : Int32} {x2 : Int32} {x3 : Int32} {x4 : Int32} {x5 : Int32} {x6 : Int32} {x7 : Int32} {x8 : Int32} {x9 : Int32} {h : xH} {r : xH}, u10.category = 1 → u11.category = 1 → u12.category = 1 → u13.category = 1 → k103 o0 x1 x2 x3 x4 x5 x6 x7 x8 x9 h = some r → xEv (xTa xs) d 211 (103, [xrv o0, .int x1, .int x2, .int x3, .int x4, .int x5, .int x6, .int x7, .int x8, .int x9, u10, u11, u12, u13], [], h) (none, r)) (hk138 : ∀ {u12 : Value} {u13 : Value} {o0 : Option Nat} {x1 : Int32} {x2 : Int32} {x3 : Int32} {x4 : Int32} {x5 : Int32} {x6 : Int32} {x7 : Int32} {x8 : Int32} {x9 : Int32} {x10 : Int32} {x11 : Int32} {h : xH} {r : xH}, u12.category = 1 → u13.category = 1 → k138 o0 x1 x2 x3 x4 x5 x6 x7 x8 x9 x10 x11 h = some r → xEv (xTa xs) d 211 (138, [xrv o0, .int x1, .int x2, .int x3, .int x4, .int x5, .int x6, .int x7, .int x8, .int x9, .int x10, .int x11, u12, u13], [], h) (none, r)) {u13 : Value} {o0 : Option Nat} {x1 : Int32} {x2 : Int32} {x3 : Int32} {x4 : Int32} {x5 : Int32} {x6 : Int32} {x7 : Int32} {x8 : Int32} {x9 : Int32} {x10 : Int32} {x11 : Int32} {x12 : Int32} {h : xH} {r : xH} (hu13 : u13.category = 1) (hf : j211_201 k103 k138 o0 x1 x2 x3 x4 x5 x6 x7 x8 x9 x10 x11 x12 h = some r) : xEv (xTa xs) d 211 (201, [xrv o0, .int x1, .int x2, .int x3, .int x4, .int x5, .int x6, .int x7, .int x8, .int x9, .int x10, .int x11, .int x12, u13], [], h) (none, r) := by
  unfold j211_201 at hf
  refine ev_do i211_201 rfl ?_
  exact j211_202_ok hd hk103 hk138 hu13 hf
def j211_169 (k103 : Option Nat → Int32 → Int32 → Int32 → Int32 → Int32 → Int32 → Int32 → Int32 → Int32 → xH → Option xH) (k138 : Option Nat → Int32 → Int32 → Int32 → Int32 → Int32 → Int32 → Int32 → Int32 → Int32 → Int32 → Int32 → xH → Option xH) (o0 : Option Nat) (x1 : Int32) (x2 : Int32) (x3 : Int32) (x4 : Int32) (x5 : Int32) (x6 : Int32) (x7 : Int32) (x8 : Int32) (x9 : Int32) (x10 : Int32) (x11 : Int32) (s0 : Int32) (h : xH) : Option xH := (if x5 = 0 then j211_201 k103 k138 o0 x1 x2 x3 x4 x5 x6 x7 x8 x9 x10 x11 s0 h else (if x9 = 0 then j211_201 k103 k138 o0 x1 x2 x3 x4 x5 x6 x7 x8 x9 x10 x11 s0 h else (if x11 = (x10 - 1) then (xgI h o0 11 63).bind fun v_4 => (if v_4 = 0 then j211_202 k103 k138 o0 x1 x2 x3 x4 x5 x6 x7 x8 x9 x10 x11 s0 1 h else j211_201 k103 k138 o0 x1 x2 x3 x4 x5 x6 x7 x8 x9 x10 x11 s0 h) else j211_201 k103 k138 o0 x1 x2 x3 x4 x5 x6 x7 x8 x9 x10 x11 s0 h)))
theorem j211_169_ok {xs : List Int32} {d : Nat} (hd : 6 ≤ d) {k103 : Option Nat → Int32 → Int32 → Int32 → Int32 → Int32 → Int32 → Int32 → Int32 → Int32 → xH → Option xH} {k138 : Option Nat → Int32 → Int32 → Int32 → Int32 → Int32 → Int32 → Int32 → Int32 → Int32 → Int32 → Int32 → xH → Option xH} (hk103 : ∀ {u10 : Value} {u11 : Value} {u12 : Value} {u13 : Value} {o0 : Option Nat} {x1 : Int32} {x2 : Int32} {x3 : Int32} {x4 : Int32} {x5 : Int32} {x6 : Int32} {x7 : Int32} {x8 : Int32} {x9 : Int32} {h : xH} {r : xH}, u10.category = 1 → u11.category = 1 → u12.category = 1 → u13.category = 1 → k103 o0 x1 x2 x3 x4 x5 x6 x7 x8 x9 h = some r → xEv (xTa xs) d 211 (103, [xrv o0, .int x1, .int x2, .int x3, .int x4, .int x5, .int x6, .int x7, .int x8, .int x9, u10, u11, u12, u13], [], h) (none, r)) (hk138 : ∀ {u12 : Value} {u13 : Value} {o0 : Option Nat} {x1 : Int32} {x2 : Int32} {x3 : Int32} {x4 : Int32} {x5 : Int32} {x6 : Int32} {x7 : Int32} {x8 : Int32} {x9 : Int32} {x10 : Int32} {x11 : Int32} {h : xH} {r : xH}, u12.category = 1 → u13.category = 1 → k138 o0 x1 x2 x3 x4 x5 x6 x7 x8 x9 x10 x11 h = some r → xEv (xTa xs) d 211 (138, [xrv o0, .int x1, .int x2, .int x3, .int x4, .int x5, .int x6, .int x7, .int x8, .int x9, .int x10, .int x11, u12, u13], [], h) (none, r)) {u12 : Value} {u13 : Value} {o0 : Option Nat} {x1 : Int32} {x2 : Int32} {x3 : Int32} {x4 : Int32} {x5 : Int32} {x6 : Int32} {x7 : Int32} {x8 : Int32} {x9 : Int32} {x10 : Int32} {x11 : Int32} {s0 : Int32} {h : xH} {r : xH} (hu12 : u12.category = 1) (hu13 : u13.category = 1) (hf : j211_169 k103 k138 o0 x1 x2 x3 x4 x5 x6 x7 x8 x9 x10 x11 s0 h = some r) : xEv (xTa xs) d 211 (169, [xrv o0, .int x1, .int x2, .int x3, .int x4, .int x5, .int x6, .int x7, .int x8, .int x9, .int x10, .int x11, u12, u13], [.int s0], h) (none, r) := by
  unfold j211_169 at hf
  refine sh_istore (i' := 12) (n := 2) i211_169 (Or.inl rfl) (xokst_of (Nat.le_of_ble_eq_true rfl) rfl) ?_
  refine ev_do i211_171 rfl ?_
  refine ev_if (t := 201) i211_173 rfl (fun c_1 => ?_) (fun c_1 => ?_)
  · replace hf := x_pos (show x5 = 0 from c_1) hf
    exact j211_201_ok hd hk103 hk138 hu13 hf
  · replace hf := x_neg (show ¬ x5 = 0 from c_1) hf
    refine ev_do i211_176 rfl ?_
    refine ev_if (t := 201) i211_178 rfl (fun c_2 => ?_) (fun c_2 => ?_)
    · replace hf := x_pos (show x9 = 0 from c_2) hf
      exact j211_201_ok hd hk103 hk138 hu13 hf
    · replace hf := x_neg (show ¬ x9 = 0 from c_2) hf
      refine ev_do i211_181 rfl ?_
      refine ev_do i211_183 rfl ?_
      refine ev_do i211_185 rfl ?_
      refine ev_do i211_186 rfl ?_
      refine ev_icmp (t := 201) i211_187 rfl (fun c_3 => ?_) (fun c_3 => ?_)
      · replace hf := x_neg (show ¬ x11 = (x10 - 1) from c_3) hf
        exact j211_201_ok hd hk103 hk138 hu13 hf
      · replace hf := x_pos (show x11 = (x10 - 1) from Decidable.byContradiction (fun h9 => c_3 h9)) hf
        refine sh_aload (i' := 0) (n := 1) i211_190 (Or.inr ⟨rfl, by decide⟩) rfl ?_
        obtain ⟨v_4, ev_4, hf⟩ := x_bind hf
        refine sh_getI i211_191 f211_377 ev_4 ?_
        refine ev_if (t := 201) i211_194 rfl (fun c_5 => ?_) (fun c_5 => ?_)
        · replace hf := x_neg (show ¬ v_4 = 0 from c_5) hf
          exact j211_201_ok hd hk103 hk138 hu13 hf
        · replace hf := x_pos (show v_4 = 0 from Decidable.byContradiction (fun h9 => c_5 h9)) hf
          refine ev_do i211_197 rfl ?_
          refine sh_goto (t := 202) i211_198 rfl ?_
          exact j211_202_ok hd hk103 hk138 hu13 hf
def j211_168 (k103 : Option Nat → Int32 → Int32 → Int32 → Int32 → Int32 → Int32 → Int32 → Int32 → Int32 → xH → Option xH) (k138 : Option Nat → Int32 → Int32 → Int32 → Int32 → Int32 → Int32 → Int32 → Int32 → Int32 → Int32 → Int32 → xH → Option xH) (o0 : Option Nat) (x1 : Int32) (x2 : Int32) (x3 : Int32) (x4 : Int32) (x5 : Int32) (x6 : Int32) (x7 : Int32) (x8 : Int32) (x9 : Int32) (x10 : Int32) (x11 : Int32) (h : xH) : Option xH := j211_169 k103 k138 o0 x1 x2 x3 x4 x5 x6 x7 x8 x9 x10 x11 0 h
theorem j211_168_ok {xs : List Int32} {d : Nat} (hd : 6 ≤ d) {k103 : Option Nat → Int32 → Int32 → Int32 → Int32 → Int32 → Int32 → Int32 → Int32 → Int32 → xH → Option xH} {k138 : Option Nat → Int32 → Int32 → Int32 → Int32 → Int32 → Int32 → Int32 → Int32 → Int32 → Int32 → Int32 → xH → Option xH} (hk103 : ∀ {u10 : Value} {u11 : Value} {u12 : Value} {u13 : Value} {o0 : Option Nat} {x1 : Int32} {x2 : Int32} {x3 : Int32} {x4 : Int32} {x5 : Int32} {x6 : Int32} {x7 : Int32} {x8 : Int32} {x9 : Int32} {h : xH} {r : xH}, u10.category = 1 → u11.category = 1 → u12.category = 1 → u13.category = 1 → k103 o0 x1 x2 x3 x4 x5 x6 x7 x8 x9 h = some r → xEv (xTa xs) d 211 (103, [xrv o0, .int x1, .int x2, .int x3, .int x4, .int x5, .int x6, .int x7, .int x8, .int x9, u10, u11, u12, u13], [], h) (none, r)) (hk138 : ∀ {u12 : Value} {u13 : Value} {o0 : Option Nat} {x1 : Int32} {x2 : Int32} {x3 : Int32} {x4 : Int32} {x5 : Int32} {x6 : Int32} {x7 : Int32} {x8 : Int32} {x9 : Int32} {x10 : Int32} {x11 : Int32} {h : xH} {r : xH}, u12.category = 1 → u13.category = 1 → k138 o0 x1 x2 x3 x4 x5 x6 x7 x8 x9 x10 x11 h = some r → xEv (xTa xs) d 211 (138, [xrv o0, .int x1, .int x2, .int x3, .int x4, .int x5, .int x6, .int x7, .int x8, .int x9, .int x10, .int x11, u12, u13], [], h) (none, r)) {u12 : Value} {u13 : Value} {o0 : Option Nat} {x1 : Int32} {x2 : Int32} {x3 : Int32} {x4 : Int32} {x5 : Int32} {x6 : Int32} {x7 : Int32} {x8 : Int32} {x9 : Int32} {x10 : Int32} {x11 : Int32} {h : xH} {r : xH} (hu12 : u12.category = 1) (hu13 : u13.category = 1) (hf : j211_168 k103 k138 o0 x1 x2 x3 x4 x5 x6 x7 x8 x9 x10 x11 h = some r) : xEv (xTa xs) d 211 (168, [xrv o0, .int x1, .int x2, .int x3, .int x4, .int x5, .int x6, .int x7, .int x8, .int x9, .int x10, .int x11, u12, u13], [], h) (none, r) := by
  unfold j211_168 at hf
  refine ev_do i211_168 rfl ?_
  exact j211_169_ok hd hk103 hk138 hu12 hu13 hf
def l211_138 (k103 : Option Nat → Int32 → Int32 → Int32 → Int32 → Int32 → Int32 → Int32 → Int32 → Int32 → xH → Option xH) : Nat → Option Nat → Int32 → Int32 → Int32 → Int32 → Int32 → Int32 → Int32 → Int32 → Int32 → Int32 → Int32 → xH → Option xH
  | 0 => fun _ _ _ _ _ _ _ _ _ _ _ _ _ => none
  | n + 1 => fun o0 x1 x2 x3 x4 x5 x6 x7 x8 x9 x10 x11 h => (if x10 ≤ x11 then (xgI h o0 11 63).bind fun v_2 => (if v_2 ≤ x8 then j211_251 k103 o0 x1 x2 x3 x4 x5 x6 x7 x8 x9 x10 x11 0 h else (xgR h o0 11 64).bind fun a_4 => (xaI h 13 a_4 x8).bind fun v_5 => j211_251 k103 o0 x1 x2 x3 x4 x5 x6 x7 x8 x9 x10 x11 v_5 h) else (if x5 = 0 then j211_168 k103 (l211_138 k103 n) o0 x1 x2 x3 x4 x5 x6 x7 x8 x9 x10 x11 h else (if x9 = 0 then j211_168 k103 (l211_138 k103 n) o0 x1 x2 x3 x4 x5 x6 x7 x8 x9 x10 x11 h else (if x11 = (x10 - 2) then j211_169 k103 (l211_138 k103 n) o0 x1 x2 x3 x4 x5 x6 x7 x8 x9 x10 x11 1 h else j211_168 k103 (l211_138 k103 n) o0 x1 x2 x3 x4 x5 x6 x7 x8 x9 x10 x11 h))))
theorem l211_138_ok {xs : List Int32} {d : Nat} (hd : 6 ≤ d) {k103 : Option Nat → Int32 → Int32 → Int32 → Int32 → Int32 → Int32 → Int32 → Int32 → Int32 → xH → Option xH} (hk103 : ∀ {u10 : Value} {u11 : Value} {u12 : Value} {u13 : Value} {o0 : Option Nat} {x1 : Int32} {x2 : Int32} {x3 : Int32} {x4 : Int32} {x5 : Int32} {x6 : Int32} {x7 : Int32} {x8 : Int32} {x9 : Int32} {h : xH} {r : xH}, u10.category = 1 → u11.category = 1 → u12.category = 1 → u13.category = 1 → k103 o0 x1 x2 x3 x4 x5 x6 x7 x8 x9 h = some r → xEv (xTa xs) d 211 (103, [xrv o0, .int x1, .int x2, .int x3, .int x4, .int x5, .int x6, .int x7, .int x8, .int x9, u10, u11, u12, u13], [], h) (none, r)) : ∀ (n : Nat) {u12 : Value} {u13 : Value} {o0 : Option Nat} {x1 : Int32} {x2 : Int32} {x3 : Int32} {x4 : Int32} {x5 : Int32} {x6 : Int32} {x7 : Int32} {x8 : Int32} {x9 : Int32} {x10 : Int32} {x11 : Int32} {h : xH} {r : xH} (hu12 : u12.category = 1) (hu13 : u13.category = 1), l211_138 k103 n o0 x1 x2 x3 x4 x5 x6 x7 x8 x9 x10 x11 h = some r → xEv (xTa xs) d 211 (138, [xrv o0, .int x1, .int x2, .int x3, .int x4, .int x5, .int x6, .int x7, .int x8, .int x9, .int x10, .int x11, u12, u13], [], h) (none, r) := by
  intro n
  induction n with
  | zero => intros; rename_i hf; cases hf
  | succ n ih =>
    intro u12 u13 o0 x1 x2 x3 x4 x5 x6 x7 x8 x9 x10 x11 h r hu12 hu13 hf
    replace hf : ((if x10 ≤ x11 then (xgI h o0 11 63).bind fun v_2 => (if v_2 ≤ x8 then j211_251 k103 o0 x1 x2 x3 x4 x5 x6 x7 x8 x9 x10 x11 0 h else (xgR h o0 11 64).bind fun a_4 => (xaI h 13 a_4 x8).bind fun v_5 => j211_251 k103 o0 x1 x2 x3 x4 x5 x6 x7 x8 x9 x10 x11 v_5 h) else (if x5 = 0 then j211_168 k103 (l211_138 k103 n) o0 x1 x2 x3 x4 x5 x6 x7 x8 x9 x10 x11 h else (if x9 = 0 then j211_168 k103 (l211_138 k103 n) o0 x1 x2 x3 x4 x5 x6 x7 x8 x9 x10 x11 h else (if x11 = (x10 - 2) then j211_169 k103 (l211_138 k103 n) o0 x1 x2 x3 x4 x5 x6 x7 x8 x9 x10 x11 1 h else j211_168 k103 (l211_138 k103 n) o0 x1 x2 x3 x4 x5 x6 x7 x8 x9 x10 x11 h))))) = some r := hf
    refine ev_do i211_138 rfl ?_
    refine ev_do i211_140 rfl ?_
    refine ev_icmp (t := 231) i211_142 rfl (fun c_1 => ?_) (fun c_1 => ?_)
    · replace hf := x_pos (show x10 ≤ x11 from c_1) hf
      refine ev_do i211_231 rfl ?_
      refine sh_aload (i' := 0) (n := 1) i211_233 (Or.inr ⟨rfl, by decide⟩) rfl ?_
      obtain ⟨v_2, ev_2, hf⟩ := x_bind hf
      refine sh_getI i211_234 f211_377 ev_2 ?_
      refine ev_icmp (t := 250) i211_237 rfl (fun c_3 => ?_) (fun c_3 => ?_)
      · replace hf := x_pos (show v_2 ≤ x8 from c_3) hf
        refine ev_do i211_250 rfl ?_
        exact j211_251_ok hd hk103 hu12 hu13 hf
      · replace hf := x_neg (show ¬ v_2 ≤ x8 from c_3) hf
        refine sh_aload (i' := 0) (n := 1) i211_240 (Or.inr ⟨rfl, by decide⟩) rfl ?_
        obtain ⟨a_4, ea_4, hf⟩ := x_bind hf
        refine sh_getR i211_241 f211_122 ea_4 ?_
        refine ev_do i211_244 rfl ?_
        obtain ⟨v_5, ev_5, hf⟩ := x_bind hf
        refine sh_aldI (tg := 13) i211_246 (Or.inl ⟨rfl, rfl⟩) ev_5 ?_
        refine sh_goto (t := 251) i211_247 rfl ?_
        exact j211_251_ok hd hk103 hu12 hu13 hf
    · replace hf := x_neg (show ¬ x10 ≤ x11 from c_1) hf
      refine ev_do i211_145 rfl ?_
      refine ev_if (t := 168) i211_147 rfl (fun c_6 => ?_) (fun c_6 => ?_)
      · replace hf := x_pos (show x5 = 0 from c_6) hf
        exact j211_168_ok hd hk103 ih hu12 hu13 hf
      · replace hf := x_neg (show ¬ x5 = 0 from c_6) hf
        refine ev_do i211_150 rfl ?_
        refine ev_if (t := 168) i211_152 rfl (fun c_7 => ?_) (fun c_7 => ?_)
        · replace hf := x_pos (show x9 = 0 from c_7) hf
          exact j211_168_ok hd hk103 ih hu12 hu13 hf
        · replace hf := x_neg (show ¬ x9 = 0 from c_7) hf
          refine ev_do i211_155 rfl ?_
          refine ev_do i211_157 rfl ?_
          refine ev_do i211_159 rfl ?_
          refine ev_do i211_160 rfl ?_
          refine ev_icmp (t := 168) i211_161 rfl (fun c_8 => ?_) (fun c_8 => ?_)
          · replace hf := x_neg (show ¬ x11 = (x10 - 2) from c_8) hf
            exact j211_168_ok hd hk103 ih hu12 hu13 hf
          · replace hf := x_pos (show x11 = (x10 - 2) from Decidable.byContradiction (fun h9 => c_8 h9)) hf
            refine ev_do i211_164 rfl ?_
            refine sh_goto (t := 169) i211_165 rfl ?_
            exact j211_169_ok hd hk103 ih hu12 hu13 hf
def j211_133 (k103 : Option Nat → Int32 → Int32 → Int32 → Int32 → Int32 → Int32 → Int32 → Int32 → Int32 → xH → Option xH) (o0 : Option Nat) (x1 : Int32) (x2 : Int32) (x3 : Int32) (x4 : Int32) (x5 : Int32) (x6 : Int32) (x7 : Int32) (x8 : Int32) (x9 : Int32) (s0 : Int32) (h : xH) : Option xH := l211_138 k103 xFuel o0 x1 x2 x3 x4 x5 x6 x7 x8 x9 s0 0 h
theorem j211_133_ok {xs : List Int32} {d : Nat} (hd : 6 ≤ d) {k103 : Option Nat → Int32 → Int32 → Int32 → Int32 → Int32 → Int32 → Int32 → Int32 → Int32 → xH → Option xH} (hk103 : ∀ {u10 : Value} {u11 : Value} {u12 : Value} {u13 : Value} {o0 : Option Nat} {x1 : Int32} {x2 : Int32} {x3 : Int32} {x4 : Int32} {x5 : Int32} {x6 : Int32} {x7 : Int32} {x8 : Int32} {x9 : Int32} {h : xH} {r : xH}, u10.category = 1 → u11.category = 1 → u12.category = 1 → u13.category = 1 → k103 o0 x1 x2 x3 x4 x5 x6 x7 x8 x9 h = some r → xEv (xTa xs) d 211 (103, [xrv o0, .int x1, .int x2, .int x3, .int x4, .int x5, .int x6, .int x7, .int x8, .int x9, u10, u11, u12, u13], [], h) (none, r)) {u10 : Value} {u11 : Value} {u12 : Value} {u13 : Value} {o0 : Option Nat} {x1 : Int32} {x2 : Int32} {x3 : Int32} {x4 : Int32} {x5 : Int32} {x6 : Int32} {x7 : Int32} {x8 : Int32} {x9 : Int32} {s0 : Int32} {h : xH} {r : xH} (hu10 : u10.category = 1) (hu11 : u11.category = 1) (hu12 : u12.category = 1) (hu13 : u13.category = 1) (hf : j211_133 k103 o0 x1 x2 x3 x4 x5 x6 x7 x8 x9 s0 h = some r) : xEv (xTa xs) d 211 (133, [xrv o0, .int x1, .int x2, .int x3, .int x4, .int x5, .int x6, .int x7, .int x8, .int x9, u10, u11, u12, u13], [.int s0], h) (none, r) := by
  unfold j211_133 at hf
  refine sh_istore (i' := 10) (n := 2) i211_133 (Or.inl rfl) (xokst_of (Nat.le_of_ble_eq_true rfl) rfl) ?_
  refine ev_do i211_135 rfl ?_
  refine sh_istore (i' := 11) (n := 2) i211_136 (Or.inl rfl) (xokst_of (Nat.le_of_ble_eq_true rfl) rfl) ?_
  exact l211_138_ok hd hk103 xFuel hu12 hu13 hf
def j211_117 (k103 : Option Nat → Int32 → Int32 → Int32 → Int32 → Int32 → Int32 → Int32 → Int32 → Int32 → xH → Option xH) (o0 : Option Nat) (x1 : Int32) (x2 : Int32) (x3 : Int32) (x4 : Int32) (x5 : Int32) (x6 : Int32) (x7 : Int32) (x8 : Int32) (x9 : Int32) (h : xH) : Option xH := (xcv h o0 11).bind fun _ => (fn197 o0 h).bind fun h_1 => (if x9 = 0 then j211_133 k103 o0 x1 x2 x3 x4 x5 x6 x7 x8 x9 x7 h_1 else j211_133 k103 o0 x1 x2 x3 x4 x5 x6 x7 x8 x9 x6 h_1)
theorem j211_117_ok {xs : List Int32} {d : Nat} (hd : 6 ≤ d) {k103 : Option Nat → Int32 → Int32 → Int32 → Int32 → Int32 → Int32 → Int32 → Int32 → Int32 → xH → Option xH} (hk103 : ∀ {u10 : Value} {u11 : Value} {u12 : Value} {u13 : Value} {o0 : Option Nat} {x1 : Int32} {x2 : Int32} {x3 : Int32} {x4 : Int32} {x5 : Int32} {x6 : Int32} {x7 : Int32} {x8 : Int32} {x9 : Int32} {h : xH} {r : xH}, u10.category = 1 → u11.category = 1 → u12.category = 1 → u13.category = 1 → k103 o0 x1 x2 x3 x4 x5 x6 x7 x8 x9 h = some r → xEv (xTa xs) d 211 (103, [xrv o0, .int x1, .int x2, .int x3, .int x4, .int x5, .int x6, .int x7, .int x8, .int x9, u10, u11, u12, u13], [], h) (none, r)) {u10 : Value} {u11 : Value} {u12 : Value} {u13 : Value} {o0 : Option Nat} {x1 : Int32} {x2 : Int32} {x3 : Int32} {x4 : Int32} {x5 : Int32} {x6 : Int32} {x7 : Int32} {x8 : Int32} {x9 : Int32} {h : xH} {r : xH} (hu10 : u10.category = 1) (hu11 : u11.category = 1) (hu12 : u12.category = 1) (hu13 : u13.category = 1) (hf : j211_117 k103 o0 x1 x2 x3 x4 x5 x6 x7 x8 x9 h = some r) : xEv (xTa xs) d 211 (117, [xrv o0, .int x1, .int x2, .int x3, .int x4, .int x5, .int x6, .int x7, .int x8, .int x9, u10, u11, u12, u13], [], h) (none, r) := by
  unfold j211_117 at hf
  refine sh_aload (i' := 0) (n := 1) i211_117 (Or.inr ⟨rfl, by decide⟩) rfl ?_
  obtain ⟨_, eu_3, hf⟩ := x_bind hf
  obtain ⟨h_1, eh_1, hf⟩ := x_bind hf
  refine sh_inv (as := []) (z := (none, h_1)) i211_118 v211_368 (Or.inl ⟨by decide, rfl⟩) m197 rfl (Nat.le_of_ble_eq_true rfl) eu_3 (fn197_call (by omega) eh_1) ?_
  refine ev_do i211_121 rfl ?_
  refine ev_if (t := 131) i211_123 rfl (fun c_2 => ?_) (fun c_2 => ?_)
  · replace hf := x_pos (show x9 = 0 from c_2) hf
    refine ev_do i211_131 rfl ?_
    exact j211_133_ok hd hk103 hu10 hu11 hu12 hu13 hf
  · replace hf := x_neg (show ¬ x9 = 0 from c_2) hf
    refine ev_do i211_126 rfl ?_
    refine sh_goto (t := 133) i211_128 rfl ?_
    exact j211_133_ok hd hk103 hu10 hu11 hu12 hu13 hf
def l211_103  : Nat → Option Nat → Int32 → Int32 → Int32 → Int32 → Int32 → Int32 → Int32 → Int32 → Int32 → xH → Option xH
  | 0 => fun _ _ _ _ _ _ _ _ _ _ _ => none
  | n + 1 => fun o0 x1 x2 x3 x4 x5 x6 x7 x8 x9 h => (if x9 = 0 then (xgI h o0 11 63).bind fun v_2 => (if v_2 ≤ x8 then some h else j211_117 (l211_103 n) o0 x1 x2 x3 x4 x5 x6 x7 x8 x9 h) else j211_117 (l211_103 n) o0 x1 x2 x3 x4 x5 x6 x7 x8 x9 h)
theorem l211_103_ok {xs : List Int32} {d : Nat} (hd : 6 ≤ d) : ∀ (n : Nat) {u10 : Value} {u11 : Value} {u12 : Value} {u13 : Value} {o0 : Option Nat} {x1 : Int32} {x2 : Int32} {x3 : Int32} {x4 : Int32} {x5 : Int32} {x6 : Int32} {x7 : Int32} {x8 : Int32} {x9 : Int32} {h : xH} {r : xH} (hu10 : u10.category = 1) (hu11 : u11.category = 1) (hu12 : u12.category = 1) (hu13 : u13.category = 1), l211_103 n o0 x1 x2 x3 x4 x5 x6 x7 x8 x9 h = some r → xEv (xTa xs) d 211 (103, [xrv o0, .int x1, .int x2, .int x3, .int x4, .int x5, .int x6, .int x7, .int x8, .int x9, u10, u11, u12, u13], [], h) (none, r) := by
  intro n
  induction n with
  | zero => intros; rename_i hf; cases hf
  | succ n ih =>
    intro u10 u11 u12 u13 o0 x1 x2 x3 x4 x5 x6 x7 x8 x9 h r hu10 hu11 hu12 hu13 hf
    replace hf : ((if x9 = 0 then (xgI h o0 11 63).bind fun v_2 => (if v_2 ≤ x8 then some h else j211_117 (l211_103 n) o0 x1 x2 x3 x4 x5 x6 x7 x8 x9 h) else j211_117 (l211_103 n) o0 x1 x2 x3 x4 x5 x6 x7 x8 x9 h)) = some r := hf
    refine ev_do i211_103 rfl ?_
    refine ev_if (t := 117) i211_105 rfl (fun c_1 => ?_) (fun c_1 => ?_)
    · replace hf := x_neg (show ¬ x9 = 0 from c_1) hf
      exact j211_117_ok hd ih hu10 hu11 hu12 hu13 hf
    · replace hf := x_pos (show x9 = 0 from Decidable.byContradiction (fun h9 => c_1 h9)) hf
      refine ev_do i211_108 rfl ?_
      refine sh_aload (i' := 0) (n := 1) i211_110 (Or.inr ⟨rfl, by decide⟩) rfl ?_
      obtain ⟨v_2, ev_2, hf⟩ := x_bind hf
      refine sh_getI i211_111 f211_377 ev_2 ?_
      refine ev_icmp (t := 342) i211_114 rfl (fun c_3 => ?_) (fun c_3 => ?_)
      · replace hf := x_pos (show v_2 ≤ x8 from c_3) hf
        obtain rfl := Option.some.inj hf
        exact sh_vret i211_342 m211 rfl
      · replace hf := x_neg (show ¬ v_2 ≤ x8 from c_3) hf
        exact j211_117_ok hd ih hu10 hu11 hu12 hu13 hf
def j211_69  (o0 : Option Nat) (x1 : Int32) (x2 : Int32) (x3 : Int32) (x4 : Int32) (x5 : Int32) (x6 : Int32) (s0 : Int32) (h : xH) : Option xH := (xcv h o0 11).bind fun _ => (fn210 o0 x3 x6 s0 x4 h).bind fun h_1 => (xgI h_1 o0 11 48).bind fun v_2 => (xgR h_1 o0 11 65).bind fun a_3 => (xaI h_1 13 a_3 0).bind fun v_4 => (xpF h_1 o0 11 48 .int (.int (v_2 + v_4))).bind fun h_5 => l211_103 xFuel o0 x1 x2 x3 x4 x5 x6 s0 0 1 h_5
theorem j211_69_ok {xs : List Int32} {d : Nat} (hd : 6 ≤ d) {u7 : Value} {u8 : Value} {u9 : Value} {u10 : Value} {u11 : Value} {u12 : Value} {u13 : Value} {o0 : Option Nat} {x1 : Int32} {x2 : Int32} {x3 : Int32} {x4 : Int32} {x5 : Int32} {x6 : Int32} {s0 : Int32} {h : xH} {r : xH} (hu7 : u7.category = 1) (hu8 : u8.category = 1) (hu9 : u9.category = 1) (hu10 : u10.category = 1) (hu11 : u11.category = 1) (hu12 : u12.category = 1) (hu13 : u13.category = 1) (hf : j211_69 o0 x1 x2 x3 x4 x5 x6 s0 h = some r) : xEv (xTa xs) d 211 (69, [xrv o0, .int x1, .int x2, .int x3, .int x4, .int x5, .int x6, u7, u8, u9, u10, u11, u12, u13], [.int s0], h) (none, r) := by
  unfold j211_69 at hf
  refine sh_istore (i' := 7) (n := 2) i211_69 (Or.inl rfl) (xokst_of (Nat.le_of_ble_eq_true rfl) rfl) ?_
  refine sh_aload (i' := 0) (n := 1) i211_71 (Or.inr ⟨rfl, by decide⟩) rfl ?_
  refine ev_do i211_72 rfl ?_
  refine ev_do i211_73 rfl ?_
  refine ev_do i211_75 rfl ?_
  refine ev_do i211_77 rfl ?_
  obtain ⟨_, eu_6, hf⟩ := x_bind hf
  obtain ⟨h_1, eh_1, hf⟩ := x_bind hf
  refine sh_inv (as := [.int x4, .int s0, .int x6, .int x3]) (z := (none, h_1)) i211_79 v211_411 (Or.inl ⟨by decide, rfl⟩) m210 rfl (Nat.le_of_ble_eq_true rfl) eu_6 (fn210_call (by omega) eh_1) ?_
  refine sh_aload (i' := 0) (n := 1) i211_82 (Or.inr ⟨rfl, by decide⟩) rfl ?_
  refine sh_dup i211_83 (xrv_cat (o0)) ?_
  obtain ⟨v_2, ev_2, hf⟩ := x_bind hf
  refine sh_getI i211_84 f211_415 ev_2 ?_
  refine sh_aload (i' := 0) (n := 1) i211_87 (Or.inr ⟨rfl, by decide⟩) rfl ?_
  obtain ⟨a_3, ea_3, hf⟩ := x_bind hf
  refine sh_getR i211_88 f211_125 ea_3 ?_
  refine ev_do i211_91 rfl ?_
  obtain ⟨v_4, ev_4, hf⟩ := x_bind hf
  refine sh_aldI (tg := 13) i211_92 (Or.inl ⟨rfl, rfl⟩) ev_4 ?_
  refine ev_do i211_93 rfl ?_
  obtain ⟨h_5, eh_5, hf⟩ := x_bind hf
  refine sh_put i211_94 f211_415 (by decide) rfl eh_5 ?_
  refine ev_do i211_97 rfl ?_
  refine sh_istore (i' := 8) (n := 2) i211_98 (Or.inl rfl) (xokst_of (Nat.le_of_ble_eq_true rfl) rfl) ?_
  refine ev_do i211_100 rfl ?_
  refine sh_istore (i' := 9) (n := 2) i211_101 (Or.inl rfl) (xokst_of (Nat.le_of_ble_eq_true rfl) rfl) ?_
  exact l211_103_ok hd xFuel hu10 hu11 hu12 hu13 hf
def j211_42  (o0 : Option Nat) (x1 : Int32) (x2 : Int32) (x3 : Int32) (x4 : Int32) (x5 : Int32) (s0 : Int32) (h : xH) : Option xH := (if x5 = 0 then (xgR h o0 11 16).bind fun a_2 => (xaI h 13 a_2 x2).bind fun v_3 => (if v_3 ≤ 1 then j211_69 o0 x1 x2 x3 x4 x5 s0 0 h else j211_69 o0 x1 x2 x3 x4 x5 s0 4 h) else j211_69 o0 x1 x2 x3 x4 x5 s0 s0 h)
theorem j211_42_ok {xs : List Int32} {d : Nat} (hd : 6 ≤ d) {u6 : Value} {u7 : Value} {u8 : Value} {u9 : Value} {u10 : Value} {u11 : Value} {u12 : Value} {u13 : Value} {o0 : Option Nat} {x1 : Int32} {x2 : Int32} {x3 : Int32} {x4 : Int32} {x5 : Int32} {s0 : Int32} {h : xH} {r : xH} (hu6 : u6.category = 1) (hu7 : u7.category = 1) (hu8 : u8.category = 1) (hu9 : u9.category = 1) (hu10 : u10.category = 1) (hu11 : u11.category = 1) (hu12 : u12.category = 1) (hu13 : u13.category = 1) (hf : j211_42 o0 x1 x2 x3 x4 x5 s0 h = some r) : xEv (xTa xs) d 211 (42, [xrv o0, .int x1, .int x2, .int x3, .int x4, .int x5, u6, u7, u8, u9, u10, u11, u12, u13], [.int s0], h) (none, r) := by
  unfold j211_42 at hf
  refine sh_istore (i' := 6) (n := 2) i211_42 (Or.inl rfl) (xokst_of (Nat.le_of_ble_eq_true rfl) rfl) ?_
  refine ev_do i211_44 rfl ?_
  refine ev_if (t := 54) i211_46 rfl (fun c_1 => ?_) (fun c_1 => ?_)
  · replace hf := x_pos (show x5 = 0 from c_1) hf
    refine sh_aload (i' := 0) (n := 1) i211_54 (Or.inr ⟨rfl, by decide⟩) rfl ?_
    obtain ⟨a_2, ea_2, hf⟩ := x_bind hf
    refine sh_getR i211_55 f211_53 ea_2 ?_
    refine ev_do i211_58 rfl ?_
    obtain ⟨v_3, ev_3, hf⟩ := x_bind hf
    refine sh_aldI (tg := 13) i211_59 (Or.inl ⟨rfl, rfl⟩) ev_3 ?_
    refine ev_do i211_60 rfl ?_
    refine ev_icmp (t := 68) i211_61 rfl (fun c_4 => ?_) (fun c_4 => ?_)
    · replace hf := x_pos (show v_3 ≤ 1 from c_4) hf
      refine ev_do i211_68 rfl ?_
      exact j211_69_ok hd hu7 hu8 hu9 hu10 hu11 hu12 hu13 hf
    · replace hf := x_neg (show ¬ v_3 ≤ 1 from c_4) hf
      refine ev_do i211_64 rfl ?_
      refine sh_goto (t := 69) i211_65 rfl ?_
      exact j211_69_ok hd hu7 hu8 hu9 hu10 hu11 hu12 hu13 hf
  · replace hf := x_neg (show ¬ x5 = 0 from c_1) hf
    refine ev_do i211_49 rfl ?_
    refine sh_goto (t := 69) i211_51 rfl ?_
    exact j211_69_ok hd hu7 hu8 hu9 hu10 hu11 hu12 hu13 hf
def j211_21  (o0 : Option Nat) (x1 : Int32) (x2 : Int32) (x3 : Int32) (x4 : Int32) (s0 : Int32) (h : xH) : Option xH := (if s0 = 0 then j211_42 o0 x1 x2 x3 x4 s0 0 h else (xgR h o0 11 17).bind fun a_2 => (xaI h 13 a_2 x2).bind fun v_3 => j211_42 o0 x1 x2 x3 x4 s0 ((2 * v_3) + 2) h)
theorem j211_21_ok {xs : List Int32} {d : Nat} (hd : 6 ≤ d) {u5 : Value} {u6 : Value} {u7 : Value} {u8 : Value} {u9 : Value} {u10 : Value} {u11 : Value} {u12 : Value} {u13 : Value} {o0 : Option Nat} {x1 : Int32} {x2 : Int32} {x3 : Int32} {x4 : Int32} {s0 : Int32} {h : xH} {r : xH} (hu5 : u5.category = 1) (hu6 : u6.category = 1) (hu7 : u7.category = 1) (hu8 : u8.category = 1) (hu9 : u9.category = 1) (hu10 : u10.category = 1) (hu11 : u11.category = 1) (hu12 : u12.category = 1) (hu13 : u13.category = 1) (hf : j211_21 o0 x1 x2 x3 x4 s0 h = some r) : xEv (xTa xs) d 211 (21, [xrv o0, .int x1, .int x2, .int x3, .int x4, u5, u6, u7, u8, u9, u10, u11, u12, u13], [.int s0], h) (none, r) := by
  unfold j211_21 at hf
  refine sh_istore (i' := 5) (n := 2) i211_21 (Or.inl rfl) (xokst_of (Nat.le_of_ble_eq_true rfl) rfl) ?_
  refine ev_do i211_23 rfl ?_
  refine ev_if (t := 41) i211_25 rfl (fun c_1 => ?_) (fun c_1 => ?_)
  · replace hf := x_pos (show s0 = 0 from c_1) hf
    refine ev_do i211_41 rfl ?_
    exact j211_42_ok hd hu6 hu7 hu8 hu9 hu10 hu11 hu12 hu13 hf
  · replace hf := x_neg (show ¬ s0 = 0 from c_1) hf
    refine ev_do i211_28 rfl ?_
    refine sh_aload (i' := 0) (n := 1) i211_29 (Or.inr ⟨rfl, by decide⟩) rfl ?_
    obtain ⟨a_2, ea_2, hf⟩ := x_bind hf
    refine sh_getR i211_30 f211_56 ea_2 ?_
    refine ev_do i211_33 rfl ?_
    obtain ⟨v_3, ev_3, hf⟩ := x_bind hf
    refine sh_aldI (tg := 13) i211_34 (Or.inl ⟨rfl, rfl⟩) ev_3 ?_
    refine ev_do i211_35 rfl ?_
    refine ev_do i211_36 rfl ?_
    refine ev_do i211_37 rfl ?_
    refine sh_goto (t := 42) i211_38 rfl ?_
    exact j211_42_ok hd hu6 hu7 hu8 hu9 hu10 hu11 hu12 hu13 hf
def fn211 (o0 : Option Nat) (x1 : Int32) (x2 : Int32) (x3 : Int32) (x4 : Int32) (h : xH) : Option xH := (xcv h o0 11).bind fun _ => (fn207 o0 x1 x2 h).bind fun h_1 => (xgR h_1 o0 11 16).bind fun a_2 => (xaI h_1 13 a_2 x2).bind fun v_3 => (if v_3 = 1 then j211_21 o0 x1 x2 x3 x4 1 h_1 else j211_21 o0 x1 x2 x3 x4 0 h_1)
theorem fn211_call {xs : List Int32} {d : Nat} (hd : 7 ≤ d) {o0 : Option Nat} {x1 : Int32} {x2 : Int32} {x3 : Int32} {x4 : Int32} {h : xH} {r : xH} (hf : fn211 o0 x1 x2 x3 x4 h = some r) : xCall (xTa xs) d 211 [xrv o0, .int x1, .int x2, .int x3, .int x4] h (none, r) := by
  obtain ⟨d, rfl⟩ : ∃ d2, d = d2 + 1 := ⟨d - 1, by omega⟩
  replace hd : 6 ≤ d := by omega
  refine call_of2 (fl := [xrv o0, .int x1, .int x2, .int x3, .int x4]) (Ls := [xrv o0, .int x1, .int x2, .int x3, .int x4, .float 0, .float 0, .float 0, .float 0, .float 0, .float 0, .float 0, .float 0, .float 0]) m211 (by simp [xfl, xrv_cat, xc_i, xc_j, xc_a, xc_f]) (Nat.le_of_ble_eq_true rfl) rfl ?_
  unfold fn211 at hf
  refine sh_aload (i' := 0) (n := 1) i211_0 (Or.inr ⟨rfl, by decide⟩) rfl ?_
  refine ev_do i211_1 rfl ?_
  refine ev_do i211_2 rfl ?_
  obtain ⟨_, eu_5, hf⟩ := x_bind hf
  obtain ⟨h_1, eh_1, hf⟩ := x_bind hf
  refine sh_inv (as := [.int x2, .int x1]) (z := (none, h_1)) i211_3 v211_408 (Or.inl ⟨by decide, rfl⟩) m207 rfl (Nat.le_of_ble_eq_true rfl) eu_5 (fn207_call (by omega) eh_1) ?_
  refine sh_aload (i' := 0) (n := 1) i211_6 (Or.inr ⟨rfl, by decide⟩) rfl ?_
  obtain ⟨a_2, ea_2, hf⟩ := x_bind hf
  refine sh_getR i211_7 f211_53 ea_2 ?_
  refine ev_do i211_10 rfl ?_
  obtain ⟨v_3, ev_3, hf⟩ := x_bind hf
  refine sh_aldI (tg := 13) i211_11 (Or.inl ⟨rfl, rfl⟩) ev_3 ?_
  refine ev_do i211_12 rfl ?_
  refine ev_icmp (t := 20) i211_13 rfl (fun c_4 => ?_) (fun c_4 => ?_)
  · replace hf := x_neg (show ¬ v_3 = 1 from c_4) hf
    refine ev_do i211_20 rfl ?_
    exact j211_21_ok hd rfl rfl rfl rfl rfl rfl rfl rfl rfl hf
  · replace hf := x_pos (show v_3 = 1 from Decidable.byContradiction (fun h9 => c_4 h9)) hf
    refine ev_do i211_16 rfl ?_
    refine sh_goto (t := 21) i211_17 rfl ?_
    exact j211_21_ok hd rfl rfl rfl rfl rfl rfl rfl rfl rfl hf
end
section
def j212_183 (k21 : Option Nat → Int32 → Int32 → xH → Option xH) (o0 : Option Nat) (x1 : Int32) (x2 : Int32) (x3 : Int32) (x4 : Int32) (h : xH) : Option xH := k21 o0 x1 x2 h
theorem j212_183_ok {xs : List Int32} {d : Nat} (hd : 5 ≤ d) {k21 : Option Nat → Int32 → Int32 → xH → Option xH} (hk21 : ∀ {u3 : Value} {u4 : Value} {u5 : Value} {u6 : Value} {o0 : Option Nat} {x1 : Int32} {x2 : Int32} {h : xH} {r : xH}, u3.category = 1 → u4.category = 1 → u5.category = 1 → u6.category = 1 → k21 o0 x1 x2 h = some r → xEv (xTa xs) d 212 (21, [xrv o0, .int x1, .int x2, u3, u4, u5, u6], [], h) (none, r)) {u5 : Value} {u6 : Value} {o0 : Option Nat} {x1 : Int32} {x2 : Int32} {x3 : Int32} {x4 : Int32} {h : xH} {r : xH} (hu5 : u5.category = 1) (hu6 : u6.category = 1) (hf : j212_183 k21 o0 x1 x2 x3 x4 h = some r) : xEv (xTa xs) d 212 (183, [xrv o0, .int x1, .int x2, .int x3, .int x4, u5, u6], [], h) (none, r) := by
  unfold j212_183 at hf
  refine sh_goto (t := 21) i212_183 rfl ?_
  exact hk21 rfl rfl hu5 hu6 hf
def j212_127 (k21 : Option Nat → Int32 → Int32 → xH → Option xH) (o0 : Option Nat) (x1 : Int32) (x2 : Int32) (x3 : Int32) (x4 : Int32) (x5 : Int32) (x6 : Int32) (s0 : Option Nat) (s1 : Int32) (s2 : Int32) (h : xH) : Option xH := (xaS h 13 (fun x => x) s0 s1 s2).bind fun h_1 => (xgR h_1 o0 11 70).bind fun a_2 => (xaS h_1 13 (fun x => x) a_2 x2 0).bind fun h_3 => j212_183 k21 o0 x1 (x2 + 1) x3 x4 h_3
theorem j212_127_ok {xs : List Int32} {d : Nat} (hd : 5 ≤ d) {k21 : Option Nat → Int32 → Int32 → xH → Option xH} (hk21 : ∀ {u3 : Value} {u4 : Value} {u5 : Value} {u6 : Value} {o0 : Option Nat} {x1 : Int32} {x2 : Int32} {h : xH} {r : xH}, u3.category = 1 → u4.category = 1 → u5.category = 1 → u6.category = 1 → k21 o0 x1 x2 h = some r → xEv (xTa xs) d 212 (21, [xrv o0, .int x1, .int x2, u3, u4, u5, u6], [], h) (none, r)) {o0 : Option Nat} {x1 : Int32} {x2 : Int32} {x3 : Int32} {x4 : Int32} {x5 : Int32} {x6 : Int32} {s0 : Option Nat} {s1 : Int32} {s2 : Int32} {h : xH} {r : xH} (hf : j212_127 k21 o0 x1 x2 x3 x4 x5 x6 s0 s1 s2 h = some r) : xEv (xTa xs) d 212 (127, [xrv o0, .int x1, .int x2, .int x3, .int x4, .int x5, .int x6], [.int s2, .int s1, xrv s0], h) (none, r) := by
  unfold j212_127 at hf
  obtain ⟨h_1, eh_1, hf⟩ := x_bind hf
  refine sh_ast (tg := 13) i212_127 (Or.inl ⟨rfl, rfl, rfl⟩) eh_1 ?_
  refine sh_aload (i' := 0) (n := 1) i212_128 (Or.inr ⟨rfl, by decide⟩) rfl ?_
  obtain ⟨a_2, ea_2, hf⟩ := x_bind hf
  refine sh_getR i212_129 f212_137 ea_2 ?_
  refine ev_do i212_132 rfl ?_
  refine ev_do i212_133 rfl ?_
  obtain ⟨h_3, eh_3, hf⟩ := x_bind hf
  refine sh_ast (tg := 13) i212_134 (Or.inl ⟨rfl, rfl, rfl⟩) eh_3 ?_
  refine sh_inc (i' := 2) i212_135 rfl (xokst_of (Nat.le_of_ble_eq_true rfl) rfl) rfl ?_
  refine sh_goto (t := 183) i212_138 rfl ?_
  exact j212_183_ok hd hk21 rfl rfl hf
def j212_60 (k21 : Option Nat → Int32 → Int32 → xH → Option xH) (o0 : Option Nat) (x1 : Int32) (x2 : Int32) (x3 : Int32) (x4 : Int32) (h : xH) : Option xH := j212_183 k21 o0 x1 (x2 + (-1)) x3 x4 h
theorem j212_60_ok {xs : List Int32} {d : Nat} (hd : 5 ≤ d) {k21 : Option Nat → Int32 → Int32 → xH → Option xH} (hk21 : ∀ {u3 : Value} {u4 : Value} {u5 : Value} {u6 : Value} {o0 : Option Nat} {x1 : Int32} {x2 : Int32} {h : xH} {r : xH}, u3.category = 1 → u4.category = 1 → u5.category = 1 → u6.category = 1 → k21 o0 x1 x2 h = some r → xEv (xTa xs) d 212 (21, [xrv o0, .int x1, .int x2, u3, u4, u5, u6], [], h) (none, r)) {u5 : Value} {u6 : Value} {o0 : Option Nat} {x1 : Int32} {x2 : Int32} {x3 : Int32} {x4 : Int32} {h : xH} {r : xH} (hu5 : u5.category = 1) (hu6 : u6.category = 1) (hf : j212_60 k21 o0 x1 x2 x3 x4 h = some r) : xEv (xTa xs) d 212 (60, [xrv o0, .int x1, .int x2, .int x3, .int x4, u5, u6], [], h) (none, r) := by
  unfold j212_60 at hf
  refine sh_inc (i' := 2) i212_60 rfl (xokst_of (Nat.le_of_ble_eq_true rfl) rfl) rfl ?_
  refine sh_goto (t := 183) i212_63 rfl ?_
  exact j212_183_ok hd hk21 hu5 hu6 hf
def l212_21  : Nat → Option Nat → Int32 → Int32 → xH → Option xH
  | 0 => fun _ _ _ _ => none
  | n + 1 => fun o0 x1 x2 h => (if x2 ≤ 0 then some h else (xgR h o0 11 69).bind fun a_2 => (xaI h 13 a_2 (x2 - 1)).bind fun v_3 => (xgR h o0 11 70).bind fun a_4 => (xaI h 13 a_4 (x2 - 1)).bind fun v_5 => (if v_3 = (-1) then j212_60 (l212_21 n) o0 x1 x2 v_3 v_5 h else (xgR h o0 11 14).bind fun a_7 => (xaI h 13 a_7 v_3).bind fun v_8 => (if v_5 = v_8 then j212_60 (l212_21 n) o0 x1 x2 v_3 v_5 h else (xgR h o0 11 70).bind fun a_10 => (xaI h 13 a_10 (x2 - 1)).bind fun v_11 => (xaS h 13 (fun x => x) a_10 (x2 - 1) (v_11 + 1)).bind fun h_12 => (xgR h_12 o0 11 16).bind fun a_13 => (xaI h_12 13 a_13 ((24 * v_3) + v_5)).bind fun v_14 => (if v_14 = 7 then (xcv h_12 o0 11).bind fun _ => (fn156 o0 v_3 h_12).bind fun r_16 => (xgR r_16.2 o0 11 69).bind fun a_17 => (if r_16.1 = (-1) then j212_127 (l212_21 n) o0 x1 x2 v_3 v_5 v_14 r_16.1 a_17 x2 (-1) r_16.2 else (xcv r_16.2 o0 11).bind fun _ => (fn160 o0 r_16.1 r_16.2).bind fun r_19 => j212_127 (l212_21 n) o0 x1 x2 v_3 v_5 v_14 r_16.1 a_17 x2 r_19.1 r_19.2) else (if 1 < v_14 then j212_183 (l212_21 n) o0 x1 x2 v_3 v_5 h_12 else (xgR h_12 o0 11 66).bind fun a_23 => (xgI h_12 o0 11 68).bind fun v_24 => (xaS h_12 13 (fun x => x) a_23 v_24 v_3).bind fun h_25 => (xgR h_25 o0 11 67).bind fun a_26 => (xgI h_25 o0 11 68).bind fun v_27 => (xaS h_25 13 (fun x => x) a_26 v_27 ((24 * v_3) + v_5)).bind fun h_28 => (xgI h_28 o0 11 68).bind fun v_29 => (xpF h_28 o0 11 68 .int (.int (v_29 + 1))).bind fun h_30 => j212_183 (l212_21 n) o0 x1 x2 v_3 v_5 h_30)))))
theorem l212_21_ok {xs : List Int32} {d : Nat} (hd : 5 ≤ d) : ∀ (n : Nat) {u3 : Value} {u4 : Value} {u5 : Value} {u6 : Value} {o0 : Option Nat} {x1 : Int32} {x2 : Int32} {h : xH} {r : xH} (hu3 : u3.category = 1) (hu4 : u4.category = 1) (hu5 : u5.category = 1) (hu6 : u6.category = 1), l212_21 n o0 x1 x2 h = some r → xEv (xTa xs) d 212 (21, [xrv o0, .int x1, .int x2, u3, u4, u5, u6], [], h) (none, r) := by
  intro n
  induction n with
  | zero => intros; rename_i hf; cases hf
  | succ n ih =>
    intro u3 u4 u5 u6 o0 x1 x2 h r hu3 hu4 hu5 hu6 hf
    replace hf : ((if x2 ≤ 0 then some h else (xgR h o0 11 69).bind fun a_2 => (xaI h 13 a_2 (x2 - 1)).bind fun v_3 => (xgR h o0 11 70).bind fun a_4 => (xaI h 13 a_4 (x2 - 1)).bind fun v_5 => (if v_3 = (-1) then j212_60 (l212_21 n) o0 x1 x2 v_3 v_5 h else (xgR h o0 11 14).bind fun a_7 => (xaI h 13 a_7 v_3).bind fun v_8 => (if v_5 = v_8 then j212_60 (l212_21 n) o0 x1 x2 v_3 v_5 h else (xgR h o0 11 70).bind fun a_10 => (xaI h 13 a_10 (x2 - 1)).bind fun v_11 => (xaS h 13 (fun x => x) a_10 (x2 - 1) (v_11 + 1)).bind fun h_12 => (xgR h_12 o0 11 16).bind fun a_13 => (xaI h_12 13 a_13 ((24 * v_3) + v_5)).bind fun v_14 => (if v_14 = 7 then (xcv h_12 o0 11).bind fun _ => (fn156 o0 v_3 h_12).bind fun r_16 => (xgR r_16.2 o0 11 69).bind fun a_17 => (if r_16.1 = (-1) then j212_127 (l212_21 n) o0 x1 x2 v_3 v_5 v_14 r_16.1 a_17 x2 (-1) r_16.2 else (xcv r_16.2 o0 11).bind fun _ => (fn160 o0 r_16.1 r_16.2).bind fun r_19 => j212_127 (l212_21 n) o0 x1 x2 v_3 v_5 v_14 r_16.1 a_17 x2 r_19.1 r_19.2) else (if 1 < v_14 then j212_183 (l212_21 n) o0 x1 x2 v_3 v_5 h_12 else (xgR h_12 o0 11 66).bind fun a_23 => (xgI h_12 o0 11 68).bind fun v_24 => (xaS h_12 13 (fun x => x) a_23 v_24 v_3).bind fun h_25 => (xgR h_25 o0 11 67).bind fun a_26 => (xgI h_25 o0 11 68).bind fun v_27 => (xaS h_25 13 (fun x => x) a_26 v_27 ((24 * v_3) + v_5)).bind fun h_28 => (xgI h_28 o0 11 68).bind fun v_29 => (xpF h_28 o0 11 68 .int (.int (v_29 + 1))).bind fun h_30 => j212_183 (l212_21 n) o0 x1 x2 v_3 v_5 h_30)))))) = some r := hf
    refine ev_do i212_21 rfl ?_
    refine ev_if (t := 186) i212_22 rfl (fun c_1 => ?_) (fun c_1 => ?_)
    · replace hf := x_pos (show x2 ≤ 0 from c_1) hf
      obtain rfl := Option.some.inj hf
      exact sh_vret i212_186 m212 rfl
    · replace hf := x_neg (show ¬ x2 ≤ 0 from c_1) hf
      refine sh_aload (i' := 0) (n := 1) i212_25 (Or.inr ⟨rfl, by decide⟩) rfl ?_
      obtain ⟨a_2, ea_2, hf⟩ := x_bind hf
      refine sh_getR i212_26 f212_134 ea_2 ?_
      refine ev_do i212_29 rfl ?_
      refine ev_do i212_30 rfl ?_
      refine ev_do i212_31 rfl ?_
      obtain ⟨v_3, ev_3, hf⟩ := x_bind hf
      refine sh_aldI (tg := 13) i212_32 (Or.inl ⟨rfl, rfl⟩) ev_3 ?_
      refine sh_istore (i' := 3) (n := 1) i212_33 (Or.inr ⟨rfl, by decide⟩) (xokst_of (Nat.le_of_ble_eq_true rfl) rfl) ?_
      refine sh_aload (i' := 0) (n := 1) i212_34 (Or.inr ⟨rfl, by decide⟩) rfl ?_
      obtain ⟨a_4, ea_4, hf⟩ := x_bind hf
      refine sh_getR i212_35 f212_137 ea_4 ?_
      refine ev_do i212_38 rfl ?_
      refine ev_do i212_39 rfl ?_
      refine ev_do i212_40 rfl ?_
      obtain ⟨v_5, ev_5, hf⟩ := x_bind hf
      refine sh_aldI (tg := 13) i212_41 (Or.inl ⟨rfl, rfl⟩) ev_5 ?_
      refine sh_istore (i' := 4) (n := 2) i212_42 (Or.inl rfl) (xokst_of (Nat.le_of_ble_eq_true rfl) rfl) ?_
      refine ev_do i212_44 rfl ?_
      refine ev_do i212_45 rfl ?_
      refine ev_icmp (t := 60) i212_46 rfl (fun c_6 => ?_) (fun c_6 => ?_)
      · replace hf := x_pos (show v_3 = (-1) from c_6) hf
        exact j212_60_ok hd ih hu5 hu6 hf
      · replace hf := x_neg (show ¬ v_3 = (-1) from c_6) hf
        refine ev_do i212_49 rfl ?_
        refine sh_aload (i' := 0) (n := 1) i212_51 (Or.inr ⟨rfl, by decide⟩) rfl ?_
        obtain ⟨a_7, ea_7, hf⟩ := x_bind hf
        refine sh_getR i212_52 f212_47 ea_7 ?_
        refine ev_do i212_55 rfl ?_
        obtain ⟨v_8, ev_8, hf⟩ := x_bind hf
        refine sh_aldI (tg := 13) i212_56 (Or.inl ⟨rfl, rfl⟩) ev_8 ?_
        refine ev_icmp (t := 66) i212_57 rfl (fun c_9 => ?_) (fun c_9 => ?_)
        · replace hf := x_neg (show ¬ v_5 = v_8 from c_9) hf
          refine sh_aload (i' := 0) (n := 1) i212_66 (Or.inr ⟨rfl, by decide⟩) rfl ?_
          obtain ⟨a_10, ea_10, hf⟩ := x_bind hf
          refine sh_getR i212_67 f212_137 ea_10 ?_
          refine ev_do i212_70 rfl ?_
          refine ev_do i212_71 rfl ?_
          refine ev_do i212_72 rfl ?_
          refine sh_dup2 i212_73 rfl (xrv_cat (a_10)) ?_
          obtain ⟨v_11, ev_11, hf⟩ := x_bind hf
          refine sh_aldI (tg := 13) i212_74 (Or.inl ⟨rfl, rfl⟩) ev_11 ?_
          refine ev_do i212_75 rfl ?_
          refine ev_do i212_76 rfl ?_
          obtain ⟨h_12, eh_12, hf⟩ := x_bind hf
          refine sh_ast (tg := 13) i212_77 (Or.inl ⟨rfl, rfl, rfl⟩) eh_12 ?_
          refine sh_aload (i' := 0) (n := 1) i212_78 (Or.inr ⟨rfl, by decide⟩) rfl ?_
          obtain ⟨a_13, ea_13, hf⟩ := x_bind hf
          refine sh_getR i212_79 f212_53 ea_13 ?_
          refine ev_do i212_82 rfl ?_
          refine ev_do i212_84 rfl ?_
          refine ev_do i212_85 rfl ?_
          refine ev_do i212_86 rfl ?_
          refine ev_do i212_88 rfl ?_
          obtain ⟨v_14, ev_14, hf⟩ := x_bind hf
          refine sh_aldI (tg := 13) i212_89 (Or.inl ⟨rfl, rfl⟩) ev_14 ?_
          refine sh_istore (i' := 5) (n := 2) i212_90 (Or.inl rfl) (xokst_of (Nat.le_of_ble_eq_true rfl) rfl) ?_
          refine ev_do i212_92 rfl ?_
          refine ev_do i212_94 rfl ?_
          refine ev_icmp (t := 141) i212_96 rfl (fun c_15 => ?_) (fun c_15 => ?_)
          · replace hf := x_neg (show ¬ v_14 = 7 from c_15) hf
            refine ev_do i212_141 rfl ?_
            refine ev_do i212_143 rfl ?_
            refine ev_icmp (t := 183) i212_144 rfl (fun c_22 => ?_) (fun c_22 => ?_)
            · replace hf := x_pos (show 1 < v_14 from c_22) hf
              exact j212_183_ok hd ih rfl hu6 hf
            · replace hf := x_neg (show ¬ 1 < v_14 from c_22) hf
              refine sh_aload (i' := 0) (n := 1) i212_147 (Or.inr ⟨rfl, by decide⟩) rfl ?_
              obtain ⟨a_23, ea_23, hf⟩ := x_bind hf
              refine sh_getR i212_148 f212_128 ea_23 ?_
              refine sh_aload (i' := 0) (n := 1) i212_151 (Or.inr ⟨rfl, by decide⟩) rfl ?_
              obtain ⟨v_24, ev_24, hf⟩ := x_bind hf
              refine sh_getI i212_152 f212_418 ev_24 ?_
              refine ev_do i212_155 rfl ?_
              obtain ⟨h_25, eh_25, hf⟩ := x_bind hf
              refine sh_ast (tg := 13) i212_156 (Or.inl ⟨rfl, rfl, rfl⟩) eh_25 ?_
              refine sh_aload (i' := 0) (n := 1) i212_157 (Or.inr ⟨rfl, by decide⟩) rfl ?_
              obtain ⟨a_26, ea_26, hf⟩ := x_bind hf
              refine sh_getR i212_158 f212_131 ea_26 ?_
              refine sh_aload (i' := 0) (n := 1) i212_161 (Or.inr ⟨rfl, by decide⟩) rfl ?_
              obtain ⟨v_27, ev_27, hf⟩ := x_bind hf
              refine sh_getI i212_162 f212_418 ev_27 ?_
              refine ev_do i212_165 rfl ?_
              refine ev_do i212_167 rfl ?_
              refine ev_do i212_168 rfl ?_
              refine ev_do i212_169 rfl ?_
              refine ev_do i212_171 rfl ?_
              obtain ⟨h_28, eh_28, hf⟩ := x_bind hf
              refine sh_ast (tg := 13) i212_172 (Or.inl ⟨rfl, rfl, rfl⟩) eh_28 ?_
              refine sh_aload (i' := 0) (n := 1) i212_173 (Or.inr ⟨rfl, by decide⟩) rfl ?_
              refine sh_dup i212_174 (xrv_cat (o0)) ?_
              obtain ⟨v_29, ev_29, hf⟩ := x_bind hf
              refine sh_getI i212_175 f212_418 ev_29 ?_
              refine ev_do i212_178 rfl ?_
              refine ev_do i212_179 rfl ?_
              obtain ⟨h_30, eh_30, hf⟩ := x_bind hf
              refine sh_put i212_180 f212_418 (by decide) rfl eh_30 ?_
              exact j212_183_ok hd ih rfl hu6 hf
          · replace hf := x_pos (show v_14 = 7 from Decidable.byContradiction (fun h9 => c_15 h9)) hf
            refine sh_aload (i' := 0) (n := 1) i212_99 (Or.inr ⟨rfl, by decide⟩) rfl ?_
            refine ev_do i212_100 rfl ?_
            obtain ⟨_, eu_21, hf⟩ := x_bind hf
            obtain ⟨r_16, er_16, hf⟩ := x_bind hf
            refine sh_inv (as := [.int v_3]) (z := (some (.int r_16.1), r_16.2)) i212_101 v212_198 (Or.inl ⟨by decide, rfl⟩) m156 rfl (Nat.le_of_ble_eq_true rfl) eu_21 (fn156_call (by omega) er_16) ?_
            refine sh_istore (i' := 6) (n := 2) i212_104 (Or.inl rfl) (xokst_of (Nat.le_of_ble_eq_true rfl) rfl) ?_
            refine sh_aload (i' := 0) (n := 1) i212_106 (Or.inr ⟨rfl, by decide⟩) rfl ?_
            obtain ⟨a_17, ea_17, hf⟩ := x_bind hf
            refine sh_getR i212_107 f212_134 ea_17 ?_
            refine ev_do i212_110 rfl ?_
            refine ev_do i212_111 rfl ?_
            refine ev_do i212_113 rfl ?_
            refine ev_icmp (t := 121) i212_114 rfl (fun c_18 => ?_) (fun c_18 => ?_)
            · replace hf := x_neg (show ¬ r_16.1 = (-1) from c_18) hf
              refine sh_aload (i' := 0) (n := 1) i212_121 (Or.inr ⟨rfl, by decide⟩) rfl ?_
              refine ev_do i212_122 rfl ?_
              obtain ⟨_, eu_20, hf⟩ := x_bind hf
              obtain ⟨r_19, er_19, hf⟩ := x_bind hf
              refine sh_inv (as := [.int r_16.1]) (z := (some (.int r_19.1), r_19.2)) i212_124 v212_353 (Or.inl ⟨by decide, rfl⟩) m160 rfl (by simp [xcat, xrv_cat, xc_i, xc_j, xc_a, xc_f]) eu_20 (fn160_call (by omega) er_19) ?_
              exact j212_127_ok hd ih hf
            · replace hf := x_pos (show r_16.1 = (-1) from Decidable.byContradiction (fun h9 => c_18 h9)) hf
              refine ev_do i212_117 rfl ?_
              refine sh_goto (t := 127) i212_118 rfl ?_
              exact j212_127_ok hd ih hf
        · replace hf := x_pos (show v_5 = v_8 from Decidable.byContradiction (fun h9 => c_9 h9)) hf
          exact j212_60_ok hd ih hu5 hu6 hf
def fn212 (o0 : Option Nat) (x1 : Int32) (h : xH) : Option xH := (xpF h o0 11 68 .int (.int 0)).bind fun h_1 => (xgR h_1 o0 11 69).bind fun a_2 => (xaS h_1 13 (fun x => x) a_2 0 x1).bind fun h_3 => (xgR h_3 o0 11 70).bind fun a_4 => (xaS h_3 13 (fun x => x) a_4 0 0).bind fun h_5 => l212_21 xFuel o0 x1 1 h_5
theorem fn212_call {xs : List Int32} {d : Nat} (hd : 6 ≤ d) {o0 : Option Nat} {x1 : Int32} {h : xH} {r : xH} (hf : fn212 o0 x1 h = some r) : xCall (xTa xs) d 212 [xrv o0, .int x1] h (none, r) := by
  obtain ⟨d, rfl⟩ : ∃ d2, d = d2 + 1 := ⟨d - 1, by omega⟩
  replace hd : 5 ≤ d := by omega
  refine call_of2 (fl := [xrv o0, .int x1]) (Ls := [xrv o0, .int x1, .float 0, .float 0, .float 0, .float 0, .float 0]) m212 (by simp [xfl, xrv_cat, xc_i, xc_j, xc_a, xc_f]) (Nat.le_of_ble_eq_true rfl) rfl ?_
  unfold fn212 at hf
  refine sh_aload (i' := 0) (n := 1) i212_0 (Or.inr ⟨rfl, by decide⟩) rfl ?_
  refine ev_do i212_1 rfl ?_
  obtain ⟨h_1, eh_1, hf⟩ := x_bind hf
  refine sh_put i212_2 f212_418 (by decide) rfl eh_1 ?_
  refine ev_do i212_5 rfl ?_
  refine sh_istore (i' := 2) (n := 1) i212_6 (Or.inr ⟨rfl, by decide⟩) (xokst_of (Nat.le_of_ble_eq_true rfl) rfl) ?_
  refine sh_aload (i' := 0) (n := 1) i212_7 (Or.inr ⟨rfl, by decide⟩) rfl ?_
  obtain ⟨a_2, ea_2, hf⟩ := x_bind hf
  refine sh_getR i212_8 f212_134 ea_2 ?_
  refine ev_do i212_11 rfl ?_
  refine ev_do i212_12 rfl ?_
  obtain ⟨h_3, eh_3, hf⟩ := x_bind hf
  refine sh_ast (tg := 13) i212_13 (Or.inl ⟨rfl, rfl, rfl⟩) eh_3 ?_
  refine sh_aload (i' := 0) (n := 1) i212_14 (Or.inr ⟨rfl, by decide⟩) rfl ?_
  obtain ⟨a_4, ea_4, hf⟩ := x_bind hf
  refine sh_getR i212_15 f212_137 ea_4 ?_
  refine ev_do i212_18 rfl ?_
  refine ev_do i212_19 rfl ?_
  obtain ⟨h_5, eh_5, hf⟩ := x_bind hf
  refine sh_ast (tg := 13) i212_20 (Or.inl ⟨rfl, rfl, rfl⟩) eh_5 ?_
  exact l212_21_ok hd xFuel rfl rfl rfl rfl hf
end
