section
def j207_253 (k149 : Option Nat → Int32 → Int32 → Int32 → Int32 → xH → Option xH) (o0 : Option Nat) (x1 : Int32) (x2 : Int32) (x3 : Int32) (x4 : Int32) (x5 : Int32) (h : xH) : Option xH := k149 o0 x1 x2 x3 (x4 + 1) h
theorem j207_253_ok {xs : List Int32} {d : Nat} (hd : 5 ≤ d) {k149 : Option Nat → Int32 → Int32 → Int32 → Int32 → xH → Option xH} (hk149 : ∀ {u5 : Value} {o0 : Option Nat} {x1 : Int32} {x2 : Int32} {x3 : Int32} {x4 : Int32} {h : xH} {r : xH}, u5.category = 1 → k149 o0 x1 x2 x3 x4 h = some r → xEv (xTa xs) d 207 (149, [xrv o0, .int x1, .int x2, .int x3, .int x4, u5], [], h) (none, r)) {o0 : Option Nat} {x1 : Int32} {x2 : Int32} {x3 : Int32} {x4 : Int32} {x5 : Int32} {h : xH} {r : xH} (hf : j207_253 k149 o0 x1 x2 x3 x4 x5 h = some r) : xEv (xTa xs) d 207 (253, [xrv o0, .int x1, .int x2, .int x3, .int x4, .int x5], [], h) (none, r) := by
  unfold j207_253 at hf
  refine sh_inc (i' := 4) i207_253 rfl (xokst_of (Nat.le_of_ble_eq_true rfl) rfl) rfl ?_
  refine sh_goto (t := 149) i207_256 rfl ?_
  exact hk149 rfl hf
def j207_190 (k149 : Option Nat → Int32 → Int32 → Int32 → Int32 → xH → Option xH) (o0 : Option Nat) (x1 : Int32) (x2 : Int32) (x3 : Int32) (x4 : Int32) (x5 : Int32) (h : xH) : Option xH := (xgR h o0 11 26).bind fun a_1 => (xaI h 13 a_1 x5).bind fun v_2 => (xgR h o0 11 27).bind fun a_3 => (xaI h 13 a_3 x5).bind fun v_4 => (xcv h o0 11).bind fun _ => (fn204 o0 x1 v_2 v_4 h).bind fun h_5 => (xgR h_5 o0 11 24).bind fun a_6 => (xaI h_5 13 a_6 x5).bind fun v_7 => (if v_7 = 2 then (xgR h_5 o0 11 12).bind fun a_9 => (xgR h_5 o0 11 29).bind fun a_10 => (xaI h_5 13 a_10 x5).bind fun v_11 => (xgR h_5 o0 11 30).bind fun a_12 => (xaI h_5 13 a_12 x5).bind fun v_13 => (xcv h_5 o0 11).bind fun _ => (fn164 o0 x1 a_9 ((600 * x1) + v_11) v_13 h_5).bind fun r_14 => (xcv r_14.2 o0 11).bind fun _ => (fn206 o0 r_14.1 r_14.2).bind fun h_15 => j207_253 k149 o0 x1 x2 x3 x4 x5 h_15 else j207_253 k149 o0 x1 x2 x3 x4 x5 h_5)
theorem j207_190_ok {xs : List Int32} {d : Nat} (hd : 5 ≤ d) {k149 : Option Nat → Int32 → Int32 → Int32 → Int32 → xH → Option xH} (hk149 : ∀ {u5 : Value} {o0 : Option Nat} {x1 : Int32} {x2 : Int32} {x3 : Int32} {x4 : Int32} {h : xH} {r : xH}, u5.category = 1 → k149 o0 x1 x2 x3 x4 h = some r → xEv (xTa xs) d 207 (149, [xrv o0, .int x1, .int x2, .int x3, .int x4, u5], [], h) (none, r)) {o0 : Option Nat} {x1 : Int32} {x2 : Int32} {x3 : Int32} {x4 : Int32} {x5 : Int32} {h : xH} {r : xH} (hf : j207_190 k149 o0 x1 x2 x3 x4 x5 h = some r) : xEv (xTa xs) d 207 (190, [xrv o0, .int x1, .int x2, .int x3, .int x4, .int x5], [], h) (none, r) := by
  unfold j207_190 at hf
  refine sh_aload (i' := 0) (n := 1) i207_190 (Or.inr ⟨rfl, by decide⟩) rfl ?_
  refine ev_do i207_191 rfl ?_
  refine sh_aload (i' := 0) (n := 1) i207_192 (Or.inr ⟨rfl, by decide⟩) rfl ?_
  obtain ⟨a_1, ea_1, hf⟩ := x_bind hf
  refine sh_getR i207_193 f207_83 ea_1 ?_
  refine ev_do i207_196 rfl ?_
  obtain ⟨v_2, ev_2, hf⟩ := x_bind hf
  refine sh_aldI (tg := 13) i207_198 (Or.inl ⟨rfl, rfl⟩) ev_2 ?_
  refine sh_aload (i' := 0) (n := 1) i207_199 (Or.inr ⟨rfl, by decide⟩) rfl ?_
  obtain ⟨a_3, ea_3, hf⟩ := x_bind hf
  refine sh_getR i207_200 f207_86 ea_3 ?_
  refine ev_do i207_203 rfl ?_
  obtain ⟨v_4, ev_4, hf⟩ := x_bind hf
  refine sh_aldI (tg := 13) i207_205 (Or.inl ⟨rfl, rfl⟩) ev_4 ?_
  obtain ⟨_, eu_18, hf⟩ := x_bind hf
  obtain ⟨h_5, eh_5, hf⟩ := x_bind hf
  refine sh_inv (as := [.int v_4, .int v_2, .int x1]) (z := (none, h_5)) i207_206 v207_396 (Or.inl ⟨by decide, rfl⟩) m204 rfl (Nat.le_of_ble_eq_true rfl) eu_18 (fn204_call (by omega) eh_5) ?_
  refine sh_aload (i' := 0) (n := 1) i207_209 (Or.inr ⟨rfl, by decide⟩) rfl ?_
  obtain ⟨a_6, ea_6, hf⟩ := x_bind hf
  refine sh_getR i207_210 f207_77 ea_6 ?_
  refine ev_do i207_213 rfl ?_
  obtain ⟨v_7, ev_7, hf⟩ := x_bind hf
  refine sh_aldI (tg := 13) i207_215 (Or.inl ⟨rfl, rfl⟩) ev_7 ?_
  refine ev_do i207_216 rfl ?_
  refine ev_icmp (t := 253) i207_217 rfl (fun c_8 => ?_) (fun c_8 => ?_)
  · replace hf := x_neg (show ¬ v_7 = 2 from c_8) hf
    exact j207_253_ok hd hk149 hf
  · replace hf := x_pos (show v_7 = 2 from Decidable.byContradiction (fun h9 => c_8 h9)) hf
    refine sh_aload (i' := 0) (n := 1) i207_220 (Or.inr ⟨rfl, by decide⟩) rfl ?_
    refine sh_aload (i' := 0) (n := 1) i207_221 (Or.inr ⟨rfl, by decide⟩) rfl ?_
    refine ev_do i207_222 rfl ?_
    refine sh_aload (i' := 0) (n := 1) i207_223 (Or.inr ⟨rfl, by decide⟩) rfl ?_
    obtain ⟨a_9, ea_9, hf⟩ := x_bind hf
    refine sh_getR i207_224 f207_41 ea_9 ?_
    refine ev_do i207_227 rfl ?_
    refine ev_do i207_230 rfl ?_
    refine ev_do i207_231 rfl ?_
    refine sh_aload (i' := 0) (n := 1) i207_232 (Or.inr ⟨rfl, by decide⟩) rfl ?_
    obtain ⟨a_10, ea_10, hf⟩ := x_bind hf
    refine sh_getR i207_233 f207_92 ea_10 ?_
    refine ev_do i207_236 rfl ?_
    obtain ⟨v_11, ev_11, hf⟩ := x_bind hf
    refine sh_aldI (tg := 13) i207_238 (Or.inl ⟨rfl, rfl⟩) ev_11 ?_
    refine ev_do i207_239 rfl ?_
    refine sh_aload (i' := 0) (n := 1) i207_240 (Or.inr ⟨rfl, by decide⟩) rfl ?_
    obtain ⟨a_12, ea_12, hf⟩ := x_bind hf
    refine sh_getR i207_241 f207_95 ea_12 ?_
    refine ev_do i207_244 rfl ?_
    obtain ⟨v_13, ev_13, hf⟩ := x_bind hf
    refine sh_aldI (tg := 13) i207_246 (Or.inl ⟨rfl, rfl⟩) ev_13 ?_
    obtain ⟨_, eu_17, hf⟩ := x_bind hf
    obtain ⟨r_14, er_14, hf⟩ := x_bind hf
    refine sh_inv (as := [.int v_13, .int ((600 * x1) + v_11), xrv a_9, .int x1]) (z := (some (.int r_14.1), r_14.2)) i207_247 v207_215 (Or.inl ⟨by decide, rfl⟩) m164 rfl (by simp [xcat, xrv_cat, xc_i, xc_j, xc_a, xc_f]) eu_17 (fn164_call (by omega) er_14) ?_
    obtain ⟨_, eu_16, hf⟩ := x_bind hf
    obtain ⟨h_15, eh_15, hf⟩ := x_bind hf
    refine sh_inv (as := [.int r_14.1]) (z := (none, h_15)) i207_250 v207_399 (Or.inl ⟨by decide, rfl⟩) m206 rfl (Nat.le_of_ble_eq_true rfl) eu_16 (fn206_call (by omega) eh_15) ?_
    exact j207_253_ok hd hk149 hf
def l207_149  : Nat → Option Nat → Int32 → Int32 → Int32 → Int32 → xH → Option xH
  | 0 => fun _ _ _ _ _ _ => none
  | n + 1 => fun o0 x1 x2 x3 x4 h => (xgR h o0 11 19).bind fun a_1 => (xaI h 13 a_1 x2).bind fun v_2 => (if v_2 ≤ x4 then some h else (xgR h o0 11 18).bind fun a_4 => (xaI h 13 a_4 x2).bind fun v_5 => (xgR h o0 11 28).bind fun a_6 => (xaI h 14 a_6 (((120 * x1) + v_5) + x4)).bind fun v_7 => (if v_7 = 0 then (xcv h o0 11).bind fun _ => (fn202 o0 h).bind fun h_9 => j207_190 (l207_149 n) o0 x1 x2 x3 x4 (((120 * x1) + v_5) + x4) h_9 else j207_190 (l207_149 n) o0 x1 x2 x3 x4 (((120 * x1) + v_5) + x4) h))
theorem l207_149_ok {xs : List Int32} {d : Nat} (hd : 5 ≤ d) : ∀ (n : Nat) {u5 : Value} {o0 : Option Nat} {x1 : Int32} {x2 : Int32} {x3 : Int32} {x4 : Int32} {h : xH} {r : xH} (hu5 : u5.category = 1), l207_149 n o0 x1 x2 x3 x4 h = some r → xEv (xTa xs) d 207 (149, [xrv o0, .int x1, .int x2, .int x3, .int x4, u5], [], h) (none, r) := by
  intro n
  induction n with
  | zero => intros; rename_i hf; cases hf
  | succ n ih =>
    intro u5 o0 x1 x2 x3 x4 h r hu5 hf
    replace hf : ((xgR h o0 11 19).bind fun a_1 => (xaI h 13 a_1 x2).bind fun v_2 => (if v_2 ≤ x4 then some h else (xgR h o0 11 18).bind fun a_4 => (xaI h 13 a_4 x2).bind fun v_5 => (xgR h o0 11 28).bind fun a_6 => (xaI h 14 a_6 (((120 * x1) + v_5) + x4)).bind fun v_7 => (if v_7 = 0 then (xcv h o0 11).bind fun _ => (fn202 o0 h).bind fun h_9 => j207_190 (l207_149 n) o0 x1 x2 x3 x4 (((120 * x1) + v_5) + x4) h_9 else j207_190 (l207_149 n) o0 x1 x2 x3 x4 (((120 * x1) + v_5) + x4) h))) = some r := hf
    refine ev_do i207_149 rfl ?_
    refine sh_aload (i' := 0) (n := 1) i207_151 (Or.inr ⟨rfl, by decide⟩) rfl ?_
    obtain ⟨a_1, ea_1, hf⟩ := x_bind hf
    refine sh_getR i207_152 f207_62 ea_1 ?_
    refine ev_do i207_155 rfl ?_
    obtain ⟨v_2, ev_2, hf⟩ := x_bind hf
    refine sh_aldI (tg := 13) i207_156 (Or.inl ⟨rfl, rfl⟩) ev_2 ?_
    refine ev_icmp (t := 259) i207_157 rfl (fun c_3 => ?_) (fun c_3 => ?_)
    · replace hf := x_pos (show v_2 ≤ x4 from c_3) hf
      obtain rfl := Option.some.inj hf
      exact sh_vret i207_259 m207 rfl
    · replace hf := x_neg (show ¬ v_2 ≤ x4 from c_3) hf
      refine ev_do i207_160 rfl ?_
      refine ev_do i207_162 rfl ?_
      refine ev_do i207_163 rfl ?_
      refine sh_aload (i' := 0) (n := 1) i207_164 (Or.inr ⟨rfl, by decide⟩) rfl ?_
      obtain ⟨a_4, ea_4, hf⟩ := x_bind hf
      refine sh_getR i207_165 f207_59 ea_4 ?_
      refine ev_do i207_168 rfl ?_
      obtain ⟨v_5, ev_5, hf⟩ := x_bind hf
      refine sh_aldI (tg := 13) i207_169 (Or.inl ⟨rfl, rfl⟩) ev_5 ?_
      refine ev_do i207_170 rfl ?_
      refine ev_do i207_171 rfl ?_
      refine ev_do i207_173 rfl ?_
      refine sh_istore (i' := 5) (n := 2) i207_174 (Or.inl rfl) (xokst_of (Nat.le_of_ble_eq_true rfl) rfl) ?_
      refine sh_aload (i' := 0) (n := 1) i207_176 (Or.inr ⟨rfl, by decide⟩) rfl ?_
      obtain ⟨a_6, ea_6, hf⟩ := x_bind hf
      refine sh_getR i207_177 f207_89 ea_6 ?_
      refine ev_do i207_180 rfl ?_
      obtain ⟨v_7, ev_7, hf⟩ := x_bind hf
      refine sh_aldI (tg := 14) i207_182 (Or.inr (Or.inr ⟨rfl, rfl⟩)) ev_7 ?_
      refine ev_if (t := 190) i207_183 rfl (fun c_8 => ?_) (fun c_8 => ?_)
      · replace hf := x_neg (show ¬ v_7 = 0 from c_8) hf
        exact j207_190_ok hd ih hf
      · replace hf := x_pos (show v_7 = 0 from Decidable.byContradiction (fun h9 => c_8 h9)) hf
        refine sh_aload (i' := 0) (n := 1) i207_186 (Or.inr ⟨rfl, by decide⟩) rfl ?_
        obtain ⟨_, eu_10, hf⟩ := x_bind hf
        obtain ⟨h_9, eh_9, hf⟩ := x_bind hf
        refine sh_inv (as := []) (z := (none, h_9)) i207_187 v207_389 (Or.inl ⟨by decide, rfl⟩) m202 rfl (Nat.le_of_ble_eq_true rfl) eu_10 (fn202_call (by omega) eh_9) ?_
        exact j207_190_ok hd ih hf
def j207_146  (o0 : Option Nat) (x1 : Int32) (x2 : Int32) (x3 : Int32) (h : xH) : Option xH := l207_149 xFuel o0 x1 x2 x3 0 h
theorem j207_146_ok {xs : List Int32} {d : Nat} (hd : 5 ≤ d) {u4 : Value} {u5 : Value} {o0 : Option Nat} {x1 : Int32} {x2 : Int32} {x3 : Int32} {h : xH} {r : xH} (hu4 : u4.category = 1) (hu5 : u5.category = 1) (hf : j207_146 o0 x1 x2 x3 h = some r) : xEv (xTa xs) d 207 (146, [xrv o0, .int x1, .int x2, .int x3, u4, u5], [], h) (none, r) := by
  unfold j207_146 at hf
  refine ev_do i207_146 rfl ?_
  refine sh_istore (i' := 4) (n := 2) i207_147 (Or.inl rfl) (xokst_of (Nat.le_of_ble_eq_true rfl) rfl) ?_
  exact l207_149_ok hd xFuel hu5 hf
def j207_115  (o0 : Option Nat) (x1 : Int32) (x2 : Int32) (x3 : Int32) (h : xH) : Option xH := (xgR h o0 11 12).bind fun a_1 => (xgR h o0 11 21).bind fun a_2 => (xaI h 13 a_2 x2).bind fun v_3 => (xgR h o0 11 22).bind fun a_4 => (xaI h 13 a_4 x2).bind fun v_5 => (xcv h o0 11).bind fun _ => (fn164 o0 x1 a_1 ((600 * x1) + v_3) v_5 h).bind fun r_6 => (xcv r_6.2 o0 11).bind fun _ => (fn206 o0 r_6.1 r_6.2).bind fun h_7 => j207_146 o0 x1 x2 x3 h_7
theorem j207_115_ok {xs : List Int32} {d : Nat} (hd : 5 ≤ d) {u4 : Value} {u5 : Value} {o0 : Option Nat} {x1 : Int32} {x2 : Int32} {x3 : Int32} {h : xH} {r : xH} (hu4 : u4.category = 1) (hu5 : u5.category = 1) (hf : j207_115 o0 x1 x2 x3 h = some r) : xEv (xTa xs) d 207 (115, [xrv o0, .int x1, .int x2, .int x3, u4, u5], [], h) (none, r) := by
  unfold j207_115 at hf
  refine sh_aload (i' := 0) (n := 1) i207_115 (Or.inr ⟨rfl, by decide⟩) rfl ?_
  refine sh_aload (i' := 0) (n := 1) i207_116 (Or.inr ⟨rfl, by decide⟩) rfl ?_
  refine ev_do i207_117 rfl ?_
  refine sh_aload (i' := 0) (n := 1) i207_118 (Or.inr ⟨rfl, by decide⟩) rfl ?_
  obtain ⟨a_1, ea_1, hf⟩ := x_bind hf
  refine sh_getR i207_119 f207_41 ea_1 ?_
  refine ev_do i207_122 rfl ?_
  refine ev_do i207_125 rfl ?_
  refine ev_do i207_126 rfl ?_
  refine sh_aload (i' := 0) (n := 1) i207_127 (Or.inr ⟨rfl, by decide⟩) rfl ?_
  obtain ⟨a_2, ea_2, hf⟩ := x_bind hf
  refine sh_getR i207_128 f207_68 ea_2 ?_
  refine ev_do i207_131 rfl ?_
  obtain ⟨v_3, ev_3, hf⟩ := x_bind hf
  refine sh_aldI (tg := 13) i207_132 (Or.inl ⟨rfl, rfl⟩) ev_3 ?_
  refine ev_do i207_133 rfl ?_
  refine sh_aload (i' := 0) (n := 1) i207_134 (Or.inr ⟨rfl, by decide⟩) rfl ?_
  obtain ⟨a_4, ea_4, hf⟩ := x_bind hf
  refine sh_getR i207_135 f207_71 ea_4 ?_
  refine ev_do i207_138 rfl ?_
  obtain ⟨v_5, ev_5, hf⟩ := x_bind hf
  refine sh_aldI (tg := 13) i207_139 (Or.inl ⟨rfl, rfl⟩) ev_5 ?_
  obtain ⟨_, eu_9, hf⟩ := x_bind hf
  obtain ⟨r_6, er_6, hf⟩ := x_bind hf
  refine sh_inv (as := [.int v_5, .int ((600 * x1) + v_3), xrv a_1, .int x1]) (z := (some (.int r_6.1), r_6.2)) i207_140 v207_215 (Or.inl ⟨by decide, rfl⟩) m164 rfl (by simp [xcat, xrv_cat, xc_i, xc_j, xc_a, xc_f]) eu_9 (fn164_call (by omega) er_6) ?_
  obtain ⟨_, eu_8, hf⟩ := x_bind hf
  obtain ⟨h_7, eh_7, hf⟩ := x_bind hf
  refine sh_inv (as := [.int r_6.1]) (z := (none, h_7)) i207_143 v207_399 (Or.inl ⟨by decide, rfl⟩) m206 rfl (Nat.le_of_ble_eq_true rfl) eu_8 (fn206_call (by omega) eh_7) ?_
  exact j207_146_ok hd hu4 hu5 hf
def j207_105  (o0 : Option Nat) (x1 : Int32) (x2 : Int32) (x3 : Int32) (h : xH) : Option xH := (if x3 = 4 then j207_115 o0 x1 x2 x3 h else (if x3 = 5 then j207_115 o0 x1 x2 x3 h else j207_146 o0 x1 x2 x3 h))
theorem j207_105_ok {xs : List Int32} {d : Nat} (hd : 5 ≤ d) {u4 : Value} {u5 : Value} {o0 : Option Nat} {x1 : Int32} {x2 : Int32} {x3 : Int32} {h : xH} {r : xH} (hu4 : u4.category = 1) (hu5 : u5.category = 1) (hf : j207_105 o0 x1 x2 x3 h = some r) : xEv (xTa xs) d 207 (105, [xrv o0, .int x1, .int x2, .int x3, u4, u5], [], h) (none, r) := by
  unfold j207_105 at hf
  refine ev_do i207_105 rfl ?_
  refine ev_do i207_106 rfl ?_
  refine ev_icmp (t := 115) i207_107 rfl (fun c_1 => ?_) (fun c_1 => ?_)
  · replace hf := x_pos (show x3 = 4 from c_1) hf
    exact j207_115_ok hd hu4 hu5 hf
  · replace hf := x_neg (show ¬ x3 = 4 from c_1) hf
    refine ev_do i207_110 rfl ?_
    refine ev_do i207_111 rfl ?_
    refine ev_icmp (t := 146) i207_112 rfl (fun c_2 => ?_) (fun c_2 => ?_)
    · replace hf := x_neg (show ¬ x3 = 5 from c_2) hf
      exact j207_146_ok hd hu4 hu5 hf
    · replace hf := x_pos (show x3 = 5 from Decidable.byContradiction (fun h9 => c_2 h9)) hf
      exact j207_115_ok hd hu4 hu5 hf
def j207_74  (o0 : Option Nat) (x1 : Int32) (x2 : Int32) (x3 : Int32) (s0 : Option Nat) (s1 : Int64) (h : xH) : Option xH := (xcv h s0 11).bind fun _ => (fn205 s0 s1 h).bind fun h_1 => (if x3 = 3 then j207_105 o0 x1 x2 x3 h_1 else (xcv h_1 o0 11).bind fun _ => (fn203 o0 32 h_1).bind fun h_3 => (xgR h_3 o0 11 21).bind fun a_4 => (xaI h_3 13 a_4 x2).bind fun v_5 => (xgR h_3 o0 11 22).bind fun a_6 => (xaI h_3 13 a_6 x2).bind fun v_7 => (xcv h_3 o0 11).bind fun _ => (fn204 o0 x1 v_5 v_7 h_3).bind fun h_8 => j207_105 o0 x1 x2 x3 h_8)
theorem j207_74_ok {xs : List Int32} {d : Nat} (hd : 5 ≤ d) {u4 : Value} {u5 : Value} {o0 : Option Nat} {x1 : Int32} {x2 : Int32} {x3 : Int32} {s0 : Option Nat} {s1 : Int64} {h : xH} {r : xH} (hu4 : u4.category = 1) (hu5 : u5.category = 1) (hf : j207_74 o0 x1 x2 x3 s0 s1 h = some r) : xEv (xTa xs) d 207 (74, [xrv o0, .int x1, .int x2, .int x3, u4, u5], [.long s1, xrv s0], h) (none, r) := by
  unfold j207_74 at hf
  obtain ⟨_, eu_11, hf⟩ := x_bind hf
  obtain ⟨h_1, eh_1, hf⟩ := x_bind hf
  refine sh_inv (as := [.long s1]) (z := (none, h_1)) i207_74 v207_392 (Or.inl ⟨by decide, rfl⟩) m205 rfl (Nat.le_of_ble_eq_true rfl) eu_11 (fn205_call (by omega) eh_1) ?_
  refine ev_do i207_77 rfl ?_
  refine ev_do i207_78 rfl ?_
  refine ev_icmp (t := 105) i207_79 rfl (fun c_2 => ?_) (fun c_2 => ?_)
  · replace hf := x_pos (show x3 = 3 from c_2) hf
    exact j207_105_ok hd hu4 hu5 hf
  · replace hf := x_neg (show ¬ x3 = 3 from c_2) hf
    refine sh_aload (i' := 0) (n := 1) i207_82 (Or.inr ⟨rfl, by decide⟩) rfl ?_
    refine ev_do i207_83 rfl ?_
    obtain ⟨_, eu_10, hf⟩ := x_bind hf
    obtain ⟨h_3, eh_3, hf⟩ := x_bind hf
    refine sh_inv (as := [.int 32]) (z := (none, h_3)) i207_85 v207_383 (Or.inl ⟨by decide, rfl⟩) m203 rfl (Nat.le_of_ble_eq_true rfl) eu_10 (fn203_call (by omega) eh_3) ?_
    refine sh_aload (i' := 0) (n := 1) i207_88 (Or.inr ⟨rfl, by decide⟩) rfl ?_
    refine ev_do i207_89 rfl ?_
    refine sh_aload (i' := 0) (n := 1) i207_90 (Or.inr ⟨rfl, by decide⟩) rfl ?_
    obtain ⟨a_4, ea_4, hf⟩ := x_bind hf
    refine sh_getR i207_91 f207_68 ea_4 ?_
    refine ev_do i207_94 rfl ?_
    obtain ⟨v_5, ev_5, hf⟩ := x_bind hf
    refine sh_aldI (tg := 13) i207_95 (Or.inl ⟨rfl, rfl⟩) ev_5 ?_
    refine sh_aload (i' := 0) (n := 1) i207_96 (Or.inr ⟨rfl, by decide⟩) rfl ?_
    obtain ⟨a_6, ea_6, hf⟩ := x_bind hf
    refine sh_getR i207_97 f207_71 ea_6 ?_
    refine ev_do i207_100 rfl ?_
    obtain ⟨v_7, ev_7, hf⟩ := x_bind hf
    refine sh_aldI (tg := 13) i207_101 (Or.inl ⟨rfl, rfl⟩) ev_7 ?_
    obtain ⟨_, eu_9, hf⟩ := x_bind hf
    obtain ⟨h_8, eh_8, hf⟩ := x_bind hf
    refine sh_inv (as := [.int v_7, .int v_5, .int x1]) (z := (none, h_8)) i207_102 v207_396 (Or.inl ⟨by decide, rfl⟩) m204 rfl (Nat.le_of_ble_eq_true rfl) eu_9 (fn204_call (by omega) eh_8) ?_
    exact j207_105_ok hd hu4 hu5 hf
def fn207 (o0 : Option Nat) (x1 : Int32) (x2 : Int32) (h : xH) : Option xH := (xpF h o0 11 61 .int (.int 0)).bind fun h_1 => (xpF h_1 o0 11 63 .int (.int 0)).bind fun h_2 => (xgR h_2 o0 11 16).bind fun a_3 => (xaI h_2 13 a_3 x2).bind fun v_4 => (if v_4 ≤ 1 then j207_146 o0 x1 x2 v_4 h_2 else (xcv h_2 o0 11).bind fun _ => (fn202 o0 h_2).bind fun h_6 => (if v_4 = 2 then j207_74 o0 x1 x2 v_4 o0 482671223149 h_6 else (if v_4 = 3 then j207_74 o0 x1 x2 v_4 o0 125780071117422 h_6 else (if v_4 = 4 then j207_74 o0 x1 x2 v_4 o0 127991945328499 h_6 else (if v_4 = 5 then j207_74 o0 x1 x2 v_4 o0 7562597 h_6 else j207_74 o0 x1 x2 v_4 o0 495690081125 h_6)))))
theorem fn207_call {xs : List Int32} {d : Nat} (hd : 6 ≤ d) {o0 : Option Nat} {x1 : Int32} {x2 : Int32} {h : xH} {r : xH} (hf : fn207 o0 x1 x2 h = some r) : xCall (xTa xs) d 207 [xrv o0, .int x1, .int x2] h (none, r) := by
  obtain ⟨d, rfl⟩ : ∃ d2, d = d2 + 1 := ⟨d - 1, by omega⟩
  replace hd : 5 ≤ d := by omega
  refine call_of2 (fl := [xrv o0, .int x1, .int x2]) (Ls := [xrv o0, .int x1, .int x2, .float 0, .float 0, .float 0]) m207 (by simp [xfl, xrv_cat, xc_i, xc_j, xc_a, xc_f]) (Nat.le_of_ble_eq_true rfl) rfl ?_
  unfold fn207 at hf
  refine sh_aload (i' := 0) (n := 1) i207_0 (Or.inr ⟨rfl, by decide⟩) rfl ?_
  refine ev_do i207_1 rfl ?_
  obtain ⟨h_1, eh_1, hf⟩ := x_bind hf
  refine sh_put i207_2 f207_380 (by decide) rfl eh_1 ?_
  refine sh_aload (i' := 0) (n := 1) i207_5 (Or.inr ⟨rfl, by decide⟩) rfl ?_
  refine ev_do i207_6 rfl ?_
  obtain ⟨h_2, eh_2, hf⟩ := x_bind hf
  refine sh_put i207_7 f207_377 (by decide) rfl eh_2 ?_
  refine sh_aload (i' := 0) (n := 1) i207_10 (Or.inr ⟨rfl, by decide⟩) rfl ?_
  obtain ⟨a_3, ea_3, hf⟩ := x_bind hf
  refine sh_getR i207_11 f207_53 ea_3 ?_
  refine ev_do i207_14 rfl ?_
  obtain ⟨v_4, ev_4, hf⟩ := x_bind hf
  refine sh_aldI (tg := 13) i207_15 (Or.inl ⟨rfl, rfl⟩) ev_4 ?_
  refine sh_istore (i' := 3) (n := 1) i207_16 (Or.inr ⟨rfl, by decide⟩) (xokst_of (Nat.le_of_ble_eq_true rfl) rfl) ?_
  refine ev_do i207_17 rfl ?_
  refine ev_do i207_18 rfl ?_
  refine ev_icmp (t := 146) i207_19 rfl (fun c_5 => ?_) (fun c_5 => ?_)
  · replace hf := x_pos (show v_4 ≤ 1 from c_5) hf
    exact j207_146_ok hd rfl rfl hf
  · replace hf := x_neg (show ¬ v_4 ≤ 1 from c_5) hf
    refine sh_aload (i' := 0) (n := 1) i207_22 (Or.inr ⟨rfl, by decide⟩) rfl ?_
    obtain ⟨_, eu_11, hf⟩ := x_bind hf
    obtain ⟨h_6, eh_6, hf⟩ := x_bind hf
    refine sh_inv (as := []) (z := (none, h_6)) i207_23 v207_389 (Or.inl ⟨by decide, rfl⟩) m202 rfl (Nat.le_of_ble_eq_true rfl) eu_11 (fn202_call (by omega) eh_6) ?_
    refine sh_aload (i' := 0) (n := 1) i207_26 (Or.inr ⟨rfl, by decide⟩) rfl ?_
    refine ev_do i207_27 rfl ?_
    refine ev_do i207_28 rfl ?_
    refine ev_icmp (t := 38) i207_29 rfl (fun c_7 => ?_) (fun c_7 => ?_)
    · replace hf := x_neg (show ¬ v_4 = 2 from c_7) hf
      refine ev_do i207_38 rfl ?_
      refine ev_do i207_39 rfl ?_
      refine ev_icmp (t := 49) i207_40 rfl (fun c_8 => ?_) (fun c_8 => ?_)
      · replace hf := x_neg (show ¬ v_4 = 3 from c_8) hf
        refine ev_do i207_49 rfl ?_
        refine ev_do i207_50 rfl ?_
        refine ev_icmp (t := 60) i207_51 rfl (fun c_9 => ?_) (fun c_9 => ?_)
        · replace hf := x_neg (show ¬ v_4 = 4 from c_9) hf
          refine ev_do i207_60 rfl ?_
          refine ev_do i207_61 rfl ?_
          refine ev_icmp (t := 71) i207_62 rfl (fun c_10 => ?_) (fun c_10 => ?_)
          · replace hf := x_neg (show ¬ v_4 = 5 from c_10) hf
            refine ev_do i207_71 (show xpush? 3 ((xtJ (xTa xs) 207 327).map .long) 71 _ _ _ = _ from by rw [w207_327]; rfl) ?_
            exact j207_74_ok hd rfl rfl hf
          · replace hf := x_pos (show v_4 = 5 from Decidable.byContradiction (fun h9 => c_10 h9)) hf
            refine ev_do i207_65 (show xpush? 3 ((xtJ (xTa xs) 207 325).map .long) 65 _ _ _ = _ from by rw [w207_325]; rfl) ?_
            refine sh_goto (t := 74) i207_68 rfl ?_
            exact j207_74_ok hd rfl rfl hf
        · replace hf := x_pos (show v_4 = 4 from Decidable.byContradiction (fun h9 => c_9 h9)) hf
          refine ev_do i207_54 (show xpush? 3 ((xtJ (xTa xs) 207 323).map .long) 54 _ _ _ = _ from by rw [w207_323]; rfl) ?_
          refine sh_goto (t := 74) i207_57 rfl ?_
          exact j207_74_ok hd rfl rfl hf
      · replace hf := x_pos (show v_4 = 3 from Decidable.byContradiction (fun h9 => c_8 h9)) hf
        refine ev_do i207_43 (show xpush? 3 ((xtJ (xTa xs) 207 321).map .long) 43 _ _ _ = _ from by rw [w207_321]; rfl) ?_
        refine sh_goto (t := 74) i207_46 rfl ?_
        exact j207_74_ok hd rfl rfl hf
    · replace hf := x_pos (show v_4 = 2 from Decidable.byContradiction (fun h9 => c_7 h9)) hf
      refine ev_do i207_32 (show xpush? 3 ((xtJ (xTa xs) 207 319).map .long) 32 _ _ _ = _ from by rw [w207_319]; rfl) ?_
      refine sh_goto (t := 74) i207_35 rfl ?_
      exact j207_74_ok hd rfl rfl hf
end
section
def j208_25  (o0 : Option Nat) (x1 : Int32) (s0 : Int32) (h : xH) : Option (Int32 × xH) := (xgR h o0 11 62).bind fun a_1 => (xaI h 13 a_1 x1).bind fun v_2 => some (s0 - v_2, h)
theorem j208_25_ok {xs : List Int32} {d : Nat} (hd : 1 ≤ d) {o0 : Option Nat} {x1 : Int32} {s0 : Int32} {h : xH} {r : (Int32 × xH)} (hf : j208_25 o0 x1 s0 h = some r) : xEv (xTa xs) d 208 (25, [xrv o0, .int x1], [.int s0], h) (some (.int r.1), r.2) := by
  unfold j208_25 at hf
  refine sh_aload (i' := 0) (n := 1) i208_25 (Or.inr ⟨rfl, by decide⟩) rfl ?_
  obtain ⟨a_1, ea_1, hf⟩ := x_bind hf
  refine sh_getR i208_26 f208_119 ea_1 ?_
  refine ev_do i208_29 rfl ?_
  obtain ⟨v_2, ev_2, hf⟩ := x_bind hf
  refine sh_aldI (tg := 13) i208_30 (Or.inl ⟨rfl, rfl⟩) ev_2 ?_
  refine ev_do i208_31 rfl ?_
  obtain rfl := Option.some.inj hf
  exact sh_iret i208_32 m208 rfl rfl
def fn208 (o0 : Option Nat) (x1 : Int32) (h : xH) : Option (Int32 × xH) := (xgI h o0 11 63).bind fun v_1 => (if v_1 ≤ (x1 + 1) then (xgI h o0 11 61).bind fun v_3 => j208_25 o0 x1 v_3 h else (xgR h o0 11 62).bind fun a_4 => (xaI h 13 a_4 (x1 + 1)).bind fun v_5 => j208_25 o0 x1 v_5 h)
theorem fn208_call {xs : List Int32} {d : Nat} (hd : 2 ≤ d) {o0 : Option Nat} {x1 : Int32} {h : xH} {r : (Int32 × xH)} (hf : fn208 o0 x1 h = some r) : xCall (xTa xs) d 208 [xrv o0, .int x1] h (some (.int r.1), r.2) := by
  obtain ⟨d, rfl⟩ : ∃ d2, d = d2 + 1 := ⟨d - 1, by omega⟩
  replace hd : 1 ≤ d := by omega
  refine call_of2 (fl := [xrv o0, .int x1]) (Ls := [xrv o0, .int x1]) m208 (by simp [xfl, xrv_cat, xc_i, xc_j, xc_a, xc_f]) (Nat.le_of_ble_eq_true rfl) rfl ?_
  unfold fn208 at hf
  refine ev_do i208_0 rfl ?_
  refine ev_do i208_1 rfl ?_
  refine ev_do i208_2 rfl ?_
  refine sh_aload (i' := 0) (n := 1) i208_3 (Or.inr ⟨rfl, by decide⟩) rfl ?_
  obtain ⟨v_1, ev_1, hf⟩ := x_bind hf
  refine sh_getI i208_4 f208_377 ev_1 ?_
  refine ev_icmp (t := 21) i208_7 rfl (fun c_2 => ?_) (fun c_2 => ?_)
  · replace hf := x_pos (show v_1 ≤ (x1 + 1) from c_2) hf
    refine sh_aload (i' := 0) (n := 1) i208_21 (Or.inr ⟨rfl, by decide⟩) rfl ?_
    obtain ⟨v_3, ev_3, hf⟩ := x_bind hf
    refine sh_getI i208_22 f208_380 ev_3 ?_
    exact j208_25_ok hd hf
  · replace hf := x_neg (show ¬ v_1 ≤ (x1 + 1) from c_2) hf
    refine sh_aload (i' := 0) (n := 1) i208_10 (Or.inr ⟨rfl, by decide⟩) rfl ?_
    obtain ⟨a_4, ea_4, hf⟩ := x_bind hf
    refine sh_getR i208_11 f208_119 ea_4 ?_
    refine ev_do i208_14 rfl ?_
    refine ev_do i208_15 rfl ?_
    refine ev_do i208_16 rfl ?_
    obtain ⟨v_5, ev_5, hf⟩ := x_bind hf
    refine sh_aldI (tg := 13) i208_17 (Or.inl ⟨rfl, rfl⟩) ev_5 ?_
    refine sh_goto (t := 25) i208_18 rfl ?_
    exact j208_25_ok hd hf
end
section
def j209_11  (o0 : Option Nat) (x1 : Int32) (s0 : Int32) (h : xH) : Option (Int32 × xH) := some (s0, h)
theorem j209_11_ok {xs : List Int32} {d : Nat} (hd : 1 ≤ d) {o0 : Option Nat} {x1 : Int32} {s0 : Int32} {h : xH} {r : (Int32 × xH)} (hf : j209_11 o0 x1 s0 h = some r) : xEv (xTa xs) d 209 (11, [xrv o0, .int x1], [.int s0], h) (some (.int r.1), r.2) := by
  unfold j209_11 at hf
  obtain rfl := Option.some.inj hf
  exact sh_iret i209_11 m209 rfl rfl
def fn209 (o0 : Option Nat) (x1 : Int32) (h : xH) : Option (Int32 × xH) := (if 0 ≤ x1 then j209_11 o0 x1 (x1 * x1) h else j209_11 o0 x1 0 h)
theorem fn209_call {xs : List Int32} {d : Nat} (hd : 2 ≤ d) {o0 : Option Nat} {x1 : Int32} {h : xH} {r : (Int32 × xH)} (hf : fn209 o0 x1 h = some r) : xCall (xTa xs) d 209 [xrv o0, .int x1] h (some (.int r.1), r.2) := by
  obtain ⟨d, rfl⟩ : ∃ d2, d = d2 + 1 := ⟨d - 1, by omega⟩
  replace hd : 1 ≤ d := by omega
  refine call_of2 (fl := [xrv o0, .int x1]) (Ls := [xrv o0, .int x1]) m209 (by simp [xfl, xrv_cat, xc_i, xc_j, xc_a, xc_f]) (Nat.le_of_ble_eq_true rfl) rfl ?_
  unfold fn209 at hf
  refine ev_do i209_0 rfl ?_
  refine ev_if (t := 8) i209_1 rfl (fun c_1 => ?_) (fun c_1 => ?_)
  · replace hf := x_pos (show 0 ≤ x1 from c_1) hf
    refine ev_do i209_8 rfl ?_
    refine ev_do i209_9 rfl ?_
    refine ev_do i209_10 rfl ?_
    exact j209_11_ok hd hf
  · replace hf := x_neg (show ¬ 0 ≤ x1 from c_1) hf
    refine ev_do i209_4 rfl ?_
    refine sh_goto (t := 11) i209_5 rfl ?_
    exact j209_11_ok hd hf
end
section
def j210_204 (k18 : Option Nat → Int32 → Int32 → Int32 → Int32 → Int32 → xH → Option xH) (o0 : Option Nat) (x1 : Int32) (x2 : Int32) (x3 : Int32) (x4 : Int32) (x5 : Int32) (x6 : Int32) (x7 : Int32) (x8 : Int32) (h : xH) : Option xH := k18 o0 x1 x2 x3 x4 (x5 + (-1)) h
theorem j210_204_ok {xs : List Int32} {d : Nat} (hd : 2 ≤ d) {k18 : Option Nat → Int32 → Int32 → Int32 → Int32 → Int32 → xH → Option xH} (hk18 : ∀ {u6 : Value} {u7 : Value} {u8 : Value} {u9 : Value} {o0 : Option Nat} {x1 : Int32} {x2 : Int32} {x3 : Int32} {x4 : Int32} {x5 : Int32} {h : xH} {r : xH}, u6.category = 1 → u7.category = 1 → u8.category = 1 → u9.category = 1 → k18 o0 x1 x2 x3 x4 x5 h = some r → xEv (xTa xs) d 210 (18, [xrv o0, .int x1, .int x2, .int x3, .int x4, .int x5, u6, u7, u8, u9], [], h) (none, r)) {u9 : Value} {o0 : Option Nat} {x1 : Int32} {x2 : Int32} {x3 : Int32} {x4 : Int32} {x5 : Int32} {x6 : Int32} {x7 : Int32} {x8 : Int32} {h : xH} {r : xH} (hu9 : u9.category = 1) (hf : j210_204 k18 o0 x1 x2 x3 x4 x5 x6 x7 x8 h = some r) : xEv (xTa xs) d 210 (204, [xrv o0, .int x1, .int x2, .int x3, .int x4, .int x5, .int x6, .int x7, .int x8, u9], [], h) (none, r) := by
  unfold j210_204 at hf
  refine sh_inc (i' := 5) i210_204 rfl (xokst_of (Nat.le_of_ble_eq_true rfl) rfl) rfl ?_
  refine sh_goto (t := 18) i210_207 rfl ?_
  exact hk18 rfl rfl rfl hu9 hf
def j210_198 (k18 : Option Nat → Int32 → Int32 → Int32 → Int32 → Int32 → xH → Option xH) (k50 : Option Nat → Int32 → Int32 → Int32 → Int32 → Int32 → Int32 → Int32 → Int32 → xH → Option xH) (o0 : Option Nat) (x1 : Int32) (x2 : Int32) (x3 : Int32) (x4 : Int32) (x5 : Int32) (x6 : Int32) (x7 : Int32) (x8 : Int32) (h : xH) : Option xH := k50 o0 x1 x2 x3 x4 x5 x6 x7 (x8 + 1) h
theorem j210_198_ok {xs : List Int32} {d : Nat} (hd : 2 ≤ d) {k18 : Option Nat → Int32 → Int32 → Int32 → Int32 → Int32 → xH → Option xH} {k50 : Option Nat → Int32 → Int32 → Int32 → Int32 → Int32 → Int32 → Int32 → Int32 → xH → Option xH} (hk18 : ∀ {u6 : Value} {u7 : Value} {u8 : Value} {u9 : Value} {o0 : Option Nat} {x1 : Int32} {x2 : Int32} {x3 : Int32} {x4 : Int32} {x5 : Int32} {h : xH} {r : xH}, u6.category = 1 → u7.category = 1 → u8.category = 1 → u9.category = 1 → k18 o0 x1 x2 x3 x4 x5 h = some r → xEv (xTa xs) d 210 (18, [xrv o0, .int x1, .int x2, .int x3, .int x4, .int x5, u6, u7, u8, u9], [], h) (none, r)) (hk50 : ∀ {u9 : Value} {o0 : Option Nat} {x1 : Int32} {x2 : Int32} {x3 : Int32} {x4 : Int32} {x5 : Int32} {x6 : Int32} {x7 : Int32} {x8 : Int32} {h : xH} {r : xH}, u9.category = 1 → k50 o0 x1 x2 x3 x4 x5 x6 x7 x8 h = some r → xEv (xTa xs) d 210 (50, [xrv o0, .int x1, .int x2, .int x3, .int x4, .int x5, .int x6, .int x7, .int x8, u9], [], h) (none, r)) {u9 : Value} {o0 : Option Nat} {x1 : Int32} {x2 : Int32} {x3 : Int32} {x4 : Int32} {x5 : Int32} {x6 : Int32} {x7 : Int32} {x8 : Int32} {h : xH} {r : xH} (hu9 : u9.category = 1) (hf : j210_198 k18 k50 o0 x1 x2 x3 x4 x5 x6 x7 x8 h = some r) : xEv (xTa xs) d 210 (198, [xrv o0, .int x1, .int x2, .int x3, .int x4, .int x5, .int x6, .int x7, .int x8, u9], [], h) (none, r) := by
  unfold j210_198 at hf
  refine sh_inc (i' := 8) i210_198 rfl (xokst_of (Nat.le_of_ble_eq_true rfl) rfl) rfl ?_
  refine sh_goto (t := 50) i210_201 rfl ?_
  exact hk50 hu9 hf
def j210_175 (k18 : Option Nat → Int32 → Int32 → Int32 → Int32 → Int32 → xH → Option xH) (k50 : Option Nat → Int32 → Int32 → Int32 → Int32 → Int32 → Int32 → Int32 → Int32 → xH → Option xH) (o0 : Option Nat) (x1 : Int32) (x2 : Int32) (x3 : Int32) (x4 : Int32) (x5 : Int32) (x6 : Int32) (x7 : Int32) (x8 : Int32) (x9 : Int32) (h : xH) : Option xH := (xgR h o0 11 64).bind fun a_1 => (xaS h 13 (fun x => x) a_1 x5 ((x8 - x5) + 1)).bind fun h_2 => (xgR h_2 o0 11 65).bind fun a_3 => (xaS h_2 13 (fun x => x) a_3 x5 x9).bind fun h_4 => j210_198 k18 k50 o0 x1 x2 x3 x4 x5 x6 x7 x8 h_4
theorem j210_175_ok {xs : List Int32} {d : Nat} (hd : 2 ≤ d) {k18 : Option Nat → Int32 → Int32 → Int32 → Int32 → Int32 → xH → Option xH} {k50 : Option Nat → Int32 → Int32 → Int32 → Int32 → Int32 → Int32 → Int32 → Int32 → xH → Option xH} (hk18 : ∀ {u6 : Value} {u7 : Value} {u8 : Value} {u9 : Value} {o0 : Option Nat} {x1 : Int32} {x2 : Int32} {x3 : Int32} {x4 : Int32} {x5 : Int32} {h : xH} {r : xH}, u6.category = 1 → u7.category = 1 → u8.category = 1 → u9.category = 1 → k18 o0 x1 x2 x3 x4 x5 h = some r → xEv (xTa xs) d 210 (18, [xrv o0, .int x1, .int x2, .int x3, .int x4, .int x5, u6, u7, u8, u9], [], h) (none, r)) (hk50 : ∀ {u9 : Value} {o0 : Option Nat} {x1 : Int32} {x2 : Int32} {x3 : Int32} {x4 : Int32} {x5 : Int32} {x6 : Int32} {x7 : Int32} {x8 : Int32} {h : xH} {r : xH}, u9.category = 1 → k50 o0 x1 x2 x3 x4 x5 x6 x7 x8 h = some r → xEv (xTa xs) d 210 (50, [xrv o0, .int x1, .int x2, .int x3, .int x4, .int x5, .int x6, .int x7, .int x8, u9], [], h) (none, r)) {o0 : Option Nat} {x1 : Int32} {x2 : Int32} {x3 : Int32} {x4 : Int32} {x5 : Int32} {x6 : Int32} {x7 : Int32} {x8 : Int32} {x9 : Int32} {h : xH} {r : xH} (hf : j210_175 k18 k50 o0 x1 x2 x3 x4 x5 x6 x7 x8 x9 h = some r) : xEv (xTa xs) d 210 (175, [xrv o0, .int x1, .int x2, .int x3, .int x4, .int x5, .int x6, .int x7, .int x8, .int x9], [], h) (none, r) := by
  unfold j210_175 at hf
  refine sh_aload (i' := 0) (n := 1) i210_175 (Or.inr ⟨rfl, by decide⟩) rfl ?_
  obtain ⟨a_1, ea_1, hf⟩ := x_bind hf
  refine sh_getR i210_176 f210_122 ea_1 ?_
  refine ev_do i210_179 rfl ?_
  refine ev_do i210_181 rfl ?_
  refine ev_do i210_183 rfl ?_
  refine ev_do i210_185 rfl ?_
  refine ev_do i210_186 rfl ?_
  refine ev_do i210_187 rfl ?_
  obtain ⟨h_2, eh_2, hf⟩ := x_bind hf
  refine sh_ast (tg := 13) i210_188 (Or.inl ⟨rfl, rfl, rfl⟩) eh_2 ?_
  refine sh_aload (i' := 0) (n := 1) i210_189 (Or.inr ⟨rfl, by decide⟩) rfl ?_
  obtain ⟨a_3, ea_3, hf⟩ := x_bind hf
  refine sh_getR i210_190 f210_125 ea_3 ?_
  refine ev_do i210_193 rfl ?_
  refine ev_do i210_195 rfl ?_
  obtain ⟨h_4, eh_4, hf⟩ := x_bind hf
  refine sh_ast (tg := 13) i210_197 (Or.inl ⟨rfl, rfl, rfl⟩) eh_4 ?_
  exact j210_198_ok hd hk18 hk50 rfl hf
def j210_146 (k18 : Option Nat → Int32 → Int32 → Int32 → Int32 → Int32 → xH → Option xH) (k50 : Option Nat → Int32 → Int32 → Int32 → Int32 → Int32 → Int32 → Int32 → Int32 → xH → Option xH) (o0 : Option Nat) (x1 : Int32) (x2 : Int32) (x3 : Int32) (x4 : Int32) (x5 : Int32) (x6 : Int32) (x7 : Int32) (x8 : Int32) (s0 : Int32) (h : xH) : Option xH := (if x4 = 0 then j210_175 k18 k50 o0 x1 x2 x3 x4 x5 x6 x7 x8 s0 h else (xgR h o0 11 64).bind fun a_2 => (xaI h 13 a_2 x5).bind fun v_3 => (if v_3 = 0 then j210_175 k18 k50 o0 x1 x2 x3 x4 x5 x6 x7 x8 s0 h else (xgR h o0 11 65).bind fun a_5 => (xaI h 13 a_5 x5).bind fun v_6 => (if v_6 < s0 then j210_198 k18 k50 o0 x1 x2 x3 x4 x5 x6 x7 x8 h else j210_175 k18 k50 o0 x1 x2 x3 x4 x5 x6 x7 x8 s0 h)))
theorem j210_146_ok {xs : List Int32} {d : Nat} (hd : 2 ≤ d) {k18 : Option Nat → Int32 → Int32 → Int32 → Int32 → Int32 → xH → Option xH} {k50 : Option Nat → Int32 → Int32 → Int32 → Int32 → Int32 → Int32 → Int32 → Int32 → xH → Option xH} (hk18 : ∀ {u6 : Value} {u7 : Value} {u8 : Value} {u9 : Value} {o0 : Option Nat} {x1 : Int32} {x2 : Int32} {x3 : Int32} {x4 : Int32} {x5 : Int32} {h : xH} {r : xH}, u6.category = 1 → u7.category = 1 → u8.category = 1 → u9.category = 1 → k18 o0 x1 x2 x3 x4 x5 h = some r → xEv (xTa xs) d 210 (18, [xrv o0, .int x1, .int x2, .int x3, .int x4, .int x5, u6, u7, u8, u9], [], h) (none, r)) (hk50 : ∀ {u9 : Value} {o0 : Option Nat} {x1 : Int32} {x2 : Int32} {x3 : Int32} {x4 : Int32} {x5 : Int32} {x6 : Int32} {x7 : Int32} {x8 : Int32} {h : xH} {r : xH}, u9.category = 1 → k50 o0 x1 x2 x3 x4 x5 x6 x7 x8 h = some r → xEv (xTa xs) d 210 (50, [xrv o0, .int x1, .int x2, .int x3, .int x4, .int x5, .int x6, .int x7, .int x8, u9], [], h) (none, r)) {u9 : Value} {o0 : Option Nat} {x1 : Int32} {x2 : Int32} {x3 : Int32} {x4 : Int32} {x5 : Int32} {x6 : Int32} {x7 : Int32} {x8 : Int32} {s0 : Int32} {h : xH} {r : xH} (hu9 : u9.category = 1) (hf : j210_146 k18 k50 o0 x1 x2 x3 x4 x5 x6 x7 x8 s0 h = some r) : xEv (xTa xs) d 210 (146, [xrv o0, .int x1, .int x2, .int x3, .int x4, .int x5, .int x6, .int x7, .int x8, u9], [.int s0], h) (none, r) := by
  unfold j210_146 at hf
  refine sh_istore (i' := 9) (n := 2) i210_146 (Or.inl rfl) (xokst_of (Nat.le_of_ble_eq_true rfl) rfl) ?_
  refine ev_do i210_148 rfl ?_
  refine ev_if (t := 175) i210_150 rfl (fun c_1 => ?_) (fun c_1 => ?_)
  · replace hf := x_pos (show x4 = 0 from c_1) hf
    exact j210_175_ok hd hk18 hk50 hf
  · replace hf := x_neg (show ¬ x4 = 0 from c_1) hf
    refine sh_aload (i' := 0) (n := 1) i210_153 (Or.inr ⟨rfl, by decide⟩) rfl ?_
    obtain ⟨a_2, ea_2, hf⟩ := x_bind hf
    refine sh_getR i210_154 f210_122 ea_2 ?_
    refine ev_do i210_157 rfl ?_
    obtain ⟨v_3, ev_3, hf⟩ := x_bind hf
    refine sh_aldI (tg := 13) i210_159 (Or.inl ⟨rfl, rfl⟩) ev_3 ?_
    refine ev_if (t := 175) i210_160 rfl (fun c_4 => ?_) (fun c_4 => ?_)
    · replace hf := x_pos (show v_3 = 0 from c_4) hf
      exact j210_175_ok hd hk18 hk50 hf
    · replace hf := x_neg (show ¬ v_3 = 0 from c_4) hf
      refine ev_do i210_163 rfl ?_
      refine sh_aload (i' := 0) (n := 1) i210_165 (Or.inr ⟨rfl, by decide⟩) rfl ?_
      obtain ⟨a_5, ea_5, hf⟩ := x_bind hf
      refine sh_getR i210_166 f210_125 ea_5 ?_
      refine ev_do i210_169 rfl ?_
      obtain ⟨v_6, ev_6, hf⟩ := x_bind hf
      refine sh_aldI (tg := 13) i210_171 (Or.inl ⟨rfl, rfl⟩) ev_6 ?_
      refine ev_icmp (t := 198) i210_172 rfl (fun c_7 => ?_) (fun c_7 => ?_)
      · replace hf := x_pos (show v_6 < s0 from c_7) hf
        exact j210_198_ok hd hk18 hk50 rfl hf
      · replace hf := x_neg (show ¬ v_6 < s0 from c_7) hf
        exact j210_175_ok hd hk18 hk50 hf
def j210_106 (k18 : Option Nat → Int32 → Int32 → Int32 → Int32 → Int32 → xH → Option xH) (k50 : Option Nat → Int32 → Int32 → Int32 → Int32 → Int32 → Int32 → Int32 → Int32 → xH → Option xH) (o0 : Option Nat) (x1 : Int32) (x2 : Int32) (x3 : Int32) (x4 : Int32) (x5 : Int32) (x6 : Int32) (x7 : Int32) (x8 : Int32) (s0 : Int32) (h : xH) : Option xH := (if s0 = 0 then j210_198 k18 k50 o0 x1 x2 x3 x4 x5 x6 s0 x8 h else (xgI h o0 11 63).bind fun v_2 => (if x8 = (v_2 - 1) then j210_146 k18 k50 o0 x1 x2 x3 x4 x5 x6 s0 x8 0 h else (xcv h o0 11).bind fun _ => (fn209 o0 (x1 - x6) h).bind fun r_4 => (xgR r_4.2 o0 11 65).bind fun a_5 => (xaI r_4.2 13 a_5 (x8 + 1)).bind fun v_6 => j210_146 k18 k50 o0 x1 x2 x3 x4 x5 x6 s0 x8 (r_4.1 + v_6) r_4.2))
theorem j210_106_ok {xs : List Int32} {d : Nat} (hd : 2 ≤ d) {k18 : Option Nat → Int32 → Int32 → Int32 → Int32 → Int32 → xH → Option xH} {k50 : Option Nat → Int32 → Int32 → Int32 → Int32 → Int32 → Int32 → Int32 → Int32 → xH → Option xH} (hk18 : ∀ {u6 : Value} {u7 : Value} {u8 : Value} {u9 : Value} {o0 : Option Nat} {x1 : Int32} {x2 : Int32} {x3 : Int32} {x4 : Int32} {x5 : Int32} {h : xH} {r : xH}, u6.category = 1 → u7.category = 1 → u8.category = 1 → u9.category = 1 → k18 o0 x1 x2 x3 x4 x5 h = some r → xEv (xTa xs) d 210 (18, [xrv o0, .int x1, .int x2, .int x3, .int x4, .int x5, u6, u7, u8, u9], [], h) (none, r)) (hk50 : ∀ {u9 : Value} {o0 : Option Nat} {x1 : Int32} {x2 : Int32} {x3 : Int32} {x4 : Int32} {x5 : Int32} {x6 : Int32} {x7 : Int32} {x8 : Int32} {h : xH} {r : xH}, u9.category = 1 → k50 o0 x1 x2 x3 x4 x5 x6 x7 x8 h = some r → xEv (xTa xs) d 210 (50, [xrv o0, .int x1, .int x2, .int x3, .int x4, .int x5, .int x6, .int x7, .int x8, u9], [], h) (none, r)) {u9 : Value} {o0 : Option Nat} {x1 : Int32} {x2 : Int32} {x3 : Int32} {x4 : Int32} {x5 : Int32} {x6 : Int32} {x7 : Int32} {x8 : Int32} {s0 : Int32} {h : xH} {r : xH} (hu9 : u9.category = 1) (hf : j210_106 k18 k50 o0 x1 x2 x3 x4 x5 x6 x7 x8 s0 h = some r) : xEv (xTa xs) d 210 (106, [xrv o0, .int x1, .int x2, .int x3, .int x4, .int x5, .int x6, .int x7, .int x8, u9], [.int s0], h) (none, r) := by
  unfold j210_106 at hf
  refine sh_istore (i' := 7) (n := 2) i210_106 (Or.inl rfl) (xokst_of (Nat.le_of_ble_eq_true rfl) rfl) ?_
  refine ev_do i210_108 rfl ?_
  refine ev_if (t := 198) i210_110 rfl (fun c_1 => ?_) (fun c_1 => ?_)
  · replace hf := x_pos (show s0 = 0 from c_1) hf
    exact j210_198_ok hd hk18 hk50 hu9 hf
  · replace hf := x_neg (show ¬ s0 = 0 from c_1) hf
    refine ev_do i210_113 rfl ?_
    refine sh_aload (i' := 0) (n := 1) i210_115 (Or.inr ⟨rfl, by decide⟩) rfl ?_
    obtain ⟨v_2, ev_2, hf⟩ := x_bind hf
    refine sh_getI i210_116 f210_377 ev_2 ?_
    refine ev_do i210_119 rfl ?_
    refine ev_do i210_120 rfl ?_
    refine ev_icmp (t := 128) i210_121 rfl (fun c_3 => ?_) (fun c_3 => ?_)
    · replace hf := x_neg (show ¬ x8 = (v_2 - 1) from c_3) hf
      refine sh_aload (i' := 0) (n := 1) i210_128 (Or.inr ⟨rfl, by decide⟩) rfl ?_
      refine ev_do i210_129 rfl ?_
      refine ev_do i210_130 rfl ?_
      refine ev_do i210_132 rfl ?_
      obtain ⟨_, eu_7, hf⟩ := x_bind hf
      obtain ⟨r_4, er_4, hf⟩ := x_bind hf
      refine sh_inv (as := [.int (x1 - x6)]) (z := (some (.int r_4.1), r_4.2)) i210_133 v210_405 (Or.inl ⟨by decide, rfl⟩) m209 rfl (Nat.le_of_ble_eq_true rfl) eu_7 (fn209_call (by omega) er_4) ?_
      refine sh_aload (i' := 0) (n := 1) i210_136 (Or.inr ⟨rfl, by decide⟩) rfl ?_
      obtain ⟨a_5, ea_5, hf⟩ := x_bind hf
      refine sh_getR i210_137 f210_125 ea_5 ?_
      refine ev_do i210_140 rfl ?_
      refine ev_do i210_142 rfl ?_
      refine ev_do i210_143 rfl ?_
      obtain ⟨v_6, ev_6, hf⟩ := x_bind hf
      refine sh_aldI (tg := 13) i210_144 (Or.inl ⟨rfl, rfl⟩) ev_6 ?_
      refine ev_do i210_145 rfl ?_
      exact j210_146_ok hd hk18 hk50 hu9 hf
    · replace hf := x_pos (show x8 = (v_2 - 1) from Decidable.byContradiction (fun h9 => c_3 h9)) hf
      refine ev_do i210_124 rfl ?_
      refine sh_goto (t := 146) i210_125 rfl ?_
      exact j210_146_ok hd hk18 hk50 hu9 hf
def j210_101 (k18 : Option Nat → Int32 → Int32 → Int32 → Int32 → Int32 → xH → Option xH) (k50 : Option Nat → Int32 → Int32 → Int32 → Int32 → Int32 → Int32 → Int32 → Int32 → xH → Option xH) (o0 : Option Nat) (x1 : Int32) (x2 : Int32) (x3 : Int32) (x4 : Int32) (x5 : Int32) (x6 : Int32) (x7 : Int32) (x8 : Int32) (h : xH) : Option xH := j210_106 k18 k50 o0 x1 x2 x3 x4 x5 x6 x7 x8 1 h
theorem j210_101_ok {xs : List Int32} {d : Nat} (hd : 2 ≤ d) {k18 : Option Nat → Int32 → Int32 → Int32 → Int32 → Int32 → xH → Option xH} {k50 : Option Nat → Int32 → Int32 → Int32 → Int32 → Int32 → Int32 → Int32 → Int32 → xH → Option xH} (hk18 : ∀ {u6 : Value} {u7 : Value} {u8 : Value} {u9 : Value} {o0 : Option Nat} {x1 : Int32} {x2 : Int32} {x3 : Int32} {x4 : Int32} {x5 : Int32} {h : xH} {r : xH}, u6.category = 1 → u7.category = 1 → u8.category = 1 → u9.category = 1 → k18 o0 x1 x2 x3 x4 x5 h = some r → xEv (xTa xs) d 210 (18, [xrv o0, .int x1, .int x2, .int x3, .int x4, .int x5, u6, u7, u8, u9], [], h) (none, r)) (hk50 : ∀ {u9 : Value} {o0 : Option Nat} {x1 : Int32} {x2 : Int32} {x3 : Int32} {x4 : Int32} {x5 : Int32} {x6 : Int32} {x7 : Int32} {x8 : Int32} {h : xH} {r : xH}, u9.category = 1 → k50 o0 x1 x2 x3 x4 x5 x6 x7 x8 h = some r → xEv (xTa xs) d 210 (50, [xrv o0, .int x1, .int x2, .int x3, .int x4, .int x5, .int x6, .int x7, .int x8, u9], [], h) (none, r)) {u9 : Value} {o0 : Option Nat} {x1 : Int32} {x2 : Int32} {x3 : Int32} {x4 : Int32} {x5 : Int32} {x6 : Int32} {x7 : Int32} {x8 : Int32} {h : xH} {r : xH} (hu9 : u9.category = 1) (hf : j210_101 k18 k50 o0 x1 x2 x3 x4 x5 x6 x7 x8 h = some r) : xEv (xTa xs) d 210 (101, [xrv o0, .int x1, .int x2, .int x3, .int x4, .int x5, .int x6, .int x7, .int x8, u9], [], h) (none, r) := by
  unfold j210_101 at hf
  refine ev_do i210_101 rfl ?_
  refine sh_goto (t := 106) i210_102 rfl ?_
  exact j210_106_ok hd hk18 hk50 hu9 hf
def j210_84 (k18 : Option Nat → Int32 → Int32 → Int32 → Int32 → Int32 → xH → Option xH) (k50 : Option Nat → Int32 → Int32 → Int32 → Int32 → Int32 → Int32 → Int32 → Int32 → xH → Option xH) (o0 : Option Nat) (x1 : Int32) (x2 : Int32) (x3 : Int32) (x4 : Int32) (x5 : Int32) (x6 : Int32) (x7 : Int32) (x8 : Int32) (s0 : Int32) (s1 : Int32) (s2 : Int32) (h : xH) : Option xH := (if x8 = x5 then j210_101 k18 k50 o0 x1 x2 x3 x4 x5 (s0 + (s1 + s2)) x7 x8 h else (if x1 < (s0 + (s1 + s2)) then j210_106 k18 k50 o0 x1 x2 x3 x4 x5 (s0 + (s1 + s2)) x7 x8 0 h else j210_101 k18 k50 o0 x1 x2 x3 x4 x5 (s0 + (s1 + s2)) x7 x8 h))
theorem j210_84_ok {xs : List Int32} {d : Nat} (hd : 2 ≤ d) {k18 : Option Nat → Int32 → Int32 → Int32 → Int32 → Int32 → xH → Option xH} {k50 : Option Nat → Int32 → Int32 → Int32 → Int32 → Int32 → Int32 → Int32 → Int32 → xH → Option xH} (hk18 : ∀ {u6 : Value} {u7 : Value} {u8 : Value} {u9 : Value} {o0 : Option Nat} {x1 : Int32} {x2 : Int32} {x3 : Int32} {x4 : Int32} {x5 : Int32} {h : xH} {r : xH}, u6.category = 1 → u7.category = 1 → u8.category = 1 → u9.category = 1 → k18 o0 x1 x2 x3 x4 x5 h = some r → xEv (xTa xs) d 210 (18, [xrv o0, .int x1, .int x2, .int x3, .int x4, .int x5, u6, u7, u8, u9], [], h) (none, r)) (hk50 : ∀ {u9 : Value} {o0 : Option Nat} {x1 : Int32} {x2 : Int32} {x3 : Int32} {x4 : Int32} {x5 : Int32} {x6 : Int32} {x7 : Int32} {x8 : Int32} {h : xH} {r : xH}, u9.category = 1 → k50 o0 x1 x2 x3 x4 x5 x6 x7 x8 h = some r → xEv (xTa xs) d 210 (50, [xrv o0, .int x1, .int x2, .int x3, .int x4, .int x5, .int x6, .int x7, .int x8, u9], [], h) (none, r)) {u9 : Value} {o0 : Option Nat} {x1 : Int32} {x2 : Int32} {x3 : Int32} {x4 : Int32} {x5 : Int32} {x6 : Int32} {x7 : Int32} {x8 : Int32} {s0 : Int32} {s1 : Int32} {s2 : Int32} {h : xH} {r : xH} (hu9 : u9.category = 1) (hf : j210_84 k18 k50 o0 x1 x2 x3 x4 x5 x6 x7 x8 s0 s1 s2 h = some r) : xEv (xTa xs) d 210 (84, [xrv o0, .int x1, .int x2, .int x3, .int x4, .int x5, .int x6, .int x7, .int x8, u9], [.int s2, .int s1, .int s0], h) (none, r) := by
  unfold j210_84 at hf
  refine ev_do i210_84 rfl ?_
  refine ev_do i210_85 rfl ?_
  refine sh_istore (i' := 6) (n := 2) i210_86 (Or.inl rfl) (xokst_of (Nat.le_of_ble_eq_true rfl) rfl) ?_
  refine ev_do i210_88 rfl ?_
  refine ev_do i210_90 rfl ?_
  refine ev_icmp (t := 101) i210_92 rfl (fun c_1 => ?_) (fun c_1 => ?_)
  · replace hf := x_pos (show x8 = x5 from c_1) hf
    exact j210_101_ok hd hk18 hk50 hu9 hf
  · replace hf := x_neg (show ¬ x8 = x5 from c_1) hf
    refine ev_do i210_95 rfl ?_
    refine ev_do i210_97 rfl ?_
    refine ev_icmp (t := 105) i210_98 rfl (fun c_2 => ?_) (fun c_2 => ?_)
    · replace hf := x_pos (show x1 < (s0 + (s1 + s2)) from c_2) hf
      refine ev_do i210_105 rfl ?_
      exact j210_106_ok hd hk18 hk50 hu9 hf
    · replace hf := x_neg (show ¬ x1 < (s0 + (s1 + s2)) from c_2) hf
      exact j210_101_ok hd hk18 hk50 hu9 hf
def l210_50 (k18 : Option Nat → Int32 → Int32 → Int32 → Int32 → Int32 → xH → Option xH) : Nat → Option Nat → Int32 → Int32 → Int32 → Int32 → Int32 → Int32 → Int32 → Int32 → xH → Option xH
  | 0 => fun _ _ _ _ _ _ _ _ _ _ => none
  | n + 1 => fun o0 x1 x2 x3 x4 x5 x6 x7 x8 h => (xgI h o0 11 63).bind fun v_1 => (if v_1 ≤ x8 then j210_204 k18 o0 x1 x2 x3 x4 x5 x6 x7 x8 h else (if x7 = 0 then j210_204 k18 o0 x1 x2 x3 x4 x5 x6 x7 x8 h else (xcv h o0 11).bind fun _ => (fn208 o0 x8 h).bind fun r_4 => (if x8 ≤ x5 then j210_84 k18 (l210_50 k18 n) o0 x1 x2 x3 x4 x5 x6 x7 x8 x6 r_4.1 0 r_4.2 else j210_84 k18 (l210_50 k18 n) o0 x1 x2 x3 x4 x5 x6 x7 x8 x6 r_4.1 1 r_4.2)))
theorem l210_50_ok {xs : List Int32} {d : Nat} (hd : 2 ≤ d) {k18 : Option Nat → Int32 → Int32 → Int32 → Int32 → Int32 → xH → Option xH} (hk18 : ∀ {u6 : Value} {u7 : Value} {u8 : Value} {u9 : Value} {o0 : Option Nat} {x1 : Int32} {x2 : Int32} {x3 : Int32} {x4 : Int32} {x5 : Int32} {h : xH} {r : xH}, u6.category = 1 → u7.category = 1 → u8.category = 1 → u9.category = 1 → k18 o0 x1 x2 x3 x4 x5 h = some r → xEv (xTa xs) d 210 (18, [xrv o0, .int x1, .int x2, .int x3, .int x4, .int x5, u6, u7, u8, u9], [], h) (none, r)) : ∀ (n : Nat) {u9 : Value} {o0 : Option Nat} {x1 : Int32} {x2 : Int32} {x3 : Int32} {x4 : Int32} {x5 : Int32} {x6 : Int32} {x7 : Int32} {x8 : Int32} {h : xH} {r : xH} (hu9 : u9.category = 1), l210_50 k18 n o0 x1 x2 x3 x4 x5 x6 x7 x8 h = some r → xEv (xTa xs) d 210 (50, [xrv o0, .int x1, .int x2, .int x3, .int x4, .int x5, .int x6, .int x7, .int x8, u9], [], h) (none, r) := by
  intro n
  induction n with
  | zero => intros; rename_i hf; cases hf
  | succ n ih =>
    intro u9 o0 x1 x2 x3 x4 x5 x6 x7 x8 h r hu9 hf
    replace hf : ((xgI h o0 11 63).bind fun v_1 => (if v_1 ≤ x8 then j210_204 k18 o0 x1 x2 x3 x4 x5 x6 x7 x8 h else (if x7 = 0 then j210_204 k18 o0 x1 x2 x3 x4 x5 x6 x7 x8 h else (xcv h o0 11).bind fun _ => (fn208 o0 x8 h).bind fun r_4 => (if x8 ≤ x5 then j210_84 k18 (l210_50 k18 n) o0 x1 x2 x3 x4 x5 x6 x7 x8 x6 r_4.1 0 r_4.2 else j210_84 k18 (l210_50 k18 n) o0 x1 x2 x3 x4 x5 x6 x7 x8 x6 r_4.1 1 r_4.2)))) = some r := hf
    refine ev_do i210_50 rfl ?_
    refine sh_aload (i' := 0) (n := 1) i210_52 (Or.inr ⟨rfl, by decide⟩) rfl ?_
    obtain ⟨v_1, ev_1, hf⟩ := x_bind hf
    refine sh_getI i210_53 f210_377 ev_1 ?_
    refine ev_icmp (t := 204) i210_56 rfl (fun c_2 => ?_) (fun c_2 => ?_)
    · replace hf := x_pos (show v_1 ≤ x8 from c_2) hf
      exact j210_204_ok hd hk18 hu9 hf
    · replace hf := x_neg (show ¬ v_1 ≤ x8 from c_2) hf
      refine ev_do i210_59 rfl ?_
      refine ev_if (t := 204) i210_61 rfl (fun c_3 => ?_) (fun c_3 => ?_)
      · replace hf := x_pos (show x7 = 0 from c_3) hf
        exact j210_204_ok hd hk18 hu9 hf
      · replace hf := x_neg (show ¬ x7 = 0 from c_3) hf
        refine ev_do i210_64 rfl ?_
        refine sh_aload (i' := 0) (n := 1) i210_66 (Or.inr ⟨rfl, by decide⟩) rfl ?_
        refine ev_do i210_67 rfl ?_
        obtain ⟨_, eu_6, hf⟩ := x_bind hf
        obtain ⟨r_4, er_4, hf⟩ := x_bind hf
        refine sh_inv (as := [.int x8]) (z := (some (.int r_4.1), r_4.2)) i210_69 v210_402 (Or.inl ⟨by decide, rfl⟩) m208 rfl (Nat.le_of_ble_eq_true rfl) eu_6 (fn208_call (by omega) er_4) ?_
        refine ev_do i210_72 rfl ?_
        refine ev_do i210_74 rfl ?_
        refine ev_icmp (t := 83) i210_76 rfl (fun c_5 => ?_) (fun c_5 => ?_)
        · replace hf := x_pos (show x8 ≤ x5 from c_5) hf
          refine ev_do i210_83 rfl ?_
          exact j210_84_ok hd hk18 ih hu9 hf
        · replace hf := x_neg (show ¬ x8 ≤ x5 from c_5) hf
          refine ev_do i210_79 rfl ?_
          refine sh_goto (t := 84) i210_80 rfl ?_
          exact j210_84_ok hd hk18 ih hu9 hf
def j210_33 (k18 : Option Nat → Int32 → Int32 → Int32 → Int32 → Int32 → xH → Option xH) (o0 : Option Nat) (x1 : Int32) (x2 : Int32) (x3 : Int32) (x4 : Int32) (x5 : Int32) (s0 : Int32) (h : xH) : Option xH := (xgR h o0 11 64).bind fun a_1 => (xaS h 13 (fun x => x) a_1 x5 0).bind fun h_2 => l210_50 k18 xFuel o0 x1 x2 x3 x4 x5 s0 1 x5 h_2
theorem j210_33_ok {xs : List Int32} {d : Nat} (hd : 2 ≤ d) {k18 : Option Nat → Int32 → Int32 → Int32 → Int32 → Int32 → xH → Option xH} (hk18 : ∀ {u6 : Value} {u7 : Value} {u8 : Value} {u9 : Value} {o0 : Option Nat} {x1 : Int32} {x2 : Int32} {x3 : Int32} {x4 : Int32} {x5 : Int32} {h : xH} {r : xH}, u6.category = 1 → u7.category = 1 → u8.category = 1 → u9.category = 1 → k18 o0 x1 x2 x3 x4 x5 h = some r → xEv (xTa xs) d 210 (18, [xrv o0, .int x1, .int x2, .int x3, .int x4, .int x5, u6, u7, u8, u9], [], h) (none, r)) {u6 : Value} {u7 : Value} {u8 : Value} {u9 : Value} {o0 : Option Nat} {x1 : Int32} {x2 : Int32} {x3 : Int32} {x4 : Int32} {x5 : Int32} {s0 : Int32} {h : xH} {r : xH} (hu6 : u6.category = 1) (hu7 : u7.category = 1) (hu8 : u8.category = 1) (hu9 : u9.category = 1) (hf : j210_33 k18 o0 x1 x2 x3 x4 x5 s0 h = some r) : xEv (xTa xs) d 210 (33, [xrv o0, .int x1, .int x2, .int x3, .int x4, .int x5, u6, u7, u8, u9], [.int s0], h) (none, r) := by
  unfold j210_33 at hf
  refine sh_istore (i' := 6) (n := 2) i210_33 (Or.inl rfl) (xokst_of (Nat.le_of_ble_eq_true rfl) rfl) ?_
  refine sh_aload (i' := 0) (n := 1) i210_35 (Or.inr ⟨rfl, by decide⟩) rfl ?_
  obtain ⟨a_1, ea_1, hf⟩ := x_bind hf
  refine sh_getR i210_36 f210_122 ea_1 ?_
  refine ev_do i210_39 rfl ?_
  refine ev_do i210_41 rfl ?_
  obtain ⟨h_2, eh_2, hf⟩ := x_bind hf
  refine sh_ast (tg := 13) i210_42 (Or.inl ⟨rfl, rfl, rfl⟩) eh_2 ?_
  refine ev_do i210_43 rfl ?_
  refine sh_istore (i' := 7) (n := 2) i210_44 (Or.inl rfl) (xokst_of (Nat.le_of_ble_eq_true rfl) rfl) ?_
  refine ev_do i210_46 rfl ?_
  refine sh_istore (i' := 8) (n := 2) i210_48 (Or.inl rfl) (xokst_of (Nat.le_of_ble_eq_true rfl) rfl) ?_
  exact l210_50_ok hd hk18 xFuel hu9 hf
def l210_18  : Nat → Option Nat → Int32 → Int32 → Int32 → Int32 → Int32 → xH → Option xH
  | 0 => fun _ _ _ _ _ _ _ => none
  | n + 1 => fun o0 x1 x2 x3 x4 x5 h => (if x5 < 0 then some h else (if x5 = 0 then j210_33 (l210_18 n) o0 x1 x2 x3 x4 x5 x2 h else j210_33 (l210_18 n) o0 x1 x2 x3 x4 x5 x3 h))
theorem l210_18_ok {xs : List Int32} {d : Nat} (hd : 2 ≤ d) : ∀ (n : Nat) {u6 : Value} {u7 : Value} {u8 : Value} {u9 : Value} {o0 : Option Nat} {x1 : Int32} {x2 : Int32} {x3 : Int32} {x4 : Int32} {x5 : Int32} {h : xH} {r : xH} (hu6 : u6.category = 1) (hu7 : u7.category = 1) (hu8 : u8.category = 1) (hu9 : u9.category = 1), l210_18 n o0 x1 x2 x3 x4 x5 h = some r → xEv (xTa xs) d 210 (18, [xrv o0, .int x1, .int x2, .int x3, .int x4, .int x5, u6, u7, u8, u9], [], h) (none, r) := by
  intro n
  induction n with
  | zero => intros; rename_i hf; cases hf
  | succ n ih =>
    intro u6 u7 u8 u9 o0 x1 x2 x3 x4 x5 h r hu6 hu7 hu8 hu9 hf
    replace hf : ((if x5 < 0 then some h else (if x5 = 0 then j210_33 (l210_18 n) o0 x1 x2 x3 x4 x5 x2 h else j210_33 (l210_18 n) o0 x1 x2 x3 x4 x5 x3 h))) = some r := hf
    refine ev_do i210_18 rfl ?_
    refine ev_if (t := 210) i210_20 rfl (fun c_1 => ?_) (fun c_1 => ?_)
    · replace hf := x_pos (show x5 < 0 from c_1) hf
      obtain rfl := Option.some.inj hf
      exact sh_vret i210_210 m210 rfl
    · replace hf := x_neg (show ¬ x5 < 0 from c_1) hf
      refine ev_do i210_23 rfl ?_
      refine ev_if (t := 32) i210_25 rfl (fun c_2 => ?_) (fun c_2 => ?_)
      · replace hf := x_neg (show ¬ x5 = 0 from c_2) hf
        refine ev_do i210_32 rfl ?_
        exact j210_33_ok hd ih hu6 hu7 hu8 hu9 hf
      · replace hf := x_pos (show x5 = 0 from Decidable.byContradiction (fun h9 => c_2 h9)) hf
        refine ev_do i210_28 rfl ?_
        refine sh_goto (t := 33) i210_29 rfl ?_
        exact j210_33_ok hd ih hu6 hu7 hu8 hu9 hf
def fn210 (o0 : Option Nat) (x1 : Int32) (x2 : Int32) (x3 : Int32) (x4 : Int32) (h : xH) : Option xH := (xgR h o0 11 65).bind fun a_1 => (xgI h o0 11 63).bind fun v_2 => (xaS h 13 (fun x => x) a_1 v_2 0).bind fun h_3 => (xgI h_3 o0 11 63).bind fun v_4 => l210_18 xFuel o0 x1 x2 x3 x4 (v_4 - 1) h_3
theorem fn210_call {xs : List Int32} {d : Nat} (hd : 3 ≤ d) {o0 : Option Nat} {x1 : Int32} {x2 : Int32} {x3 : Int32} {x4 : Int32} {h : xH} {r : xH} (hf : fn210 o0 x1 x2 x3 x4 h = some r) : xCall (xTa xs) d 210 [xrv o0, .int x1, .int x2, .int x3, .int x4] h (none, r) := by
  obtain ⟨d, rfl⟩ : ∃ d2, d = d2 + 1 := ⟨d - 1, by omega⟩
  replace hd : 2 ≤ d := by omega
  refine call_of2 (fl := [xrv o0, .int x1, .int x2, .int x3, .int x4]) (Ls := [xrv o0, .int x1, .int x2, .int x3, .int x4, .float 0, .float 0, .float 0, .float 0, .float 0]) m210 (by simp [xfl, xrv_cat, xc_i, xc_j, xc_a, xc_f]) (Nat.le_of_ble_eq_true rfl) rfl ?_
  unfold fn210 at hf
  refine sh_aload (i' := 0) (n := 1) i210_0 (Or.inr ⟨rfl, by decide⟩) rfl ?_
  obtain ⟨a_1, ea_1, hf⟩ := x_bind hf
  refine sh_getR i210_1 f210_125 ea_1 ?_
  refine sh_aload (i' := 0) (n := 1) i210_4 (Or.inr ⟨rfl, by decide⟩) rfl ?_
  obtain ⟨v_2, ev_2, hf⟩ := x_bind hf
  refine sh_getI i210_5 f210_377 ev_2 ?_
  refine ev_do i210_8 rfl ?_
  obtain ⟨h_3, eh_3, hf⟩ := x_bind hf
  refine sh_ast (tg := 13) i210_9 (Or.inl ⟨rfl, rfl, rfl⟩) eh_3 ?_
  refine sh_aload (i' := 0) (n := 1) i210_10 (Or.inr ⟨rfl, by decide⟩) rfl ?_
  obtain ⟨v_4, ev_4, hf⟩ := x_bind hf
  refine sh_getI i210_11 f210_377 ev_4 ?_
  refine ev_do i210_14 rfl ?_
  refine ev_do i210_15 rfl ?_
  refine sh_istore (i' := 5) (n := 2) i210_16 (Or.inl rfl) (xokst_of (Nat.le_of_ble_eq_true rfl) rfl) ?_
  exact l210_18_ok hd xFuel rfl rfl rfl rfl hf
end
section
def l211_283 (k103 : Option Nat → Int32 → Int32 → Int32 → Int32 → Int32 → Int32 → Int32 → Int32 → Int32 → xH → Option xH) (k257 : Option Nat → Int32 → Int32 → Int32 → Int32 → Int32 → Int32 → Int32 → Int32 → Int32 → Int32 → Int32 → Int32 → xH → Option xH) : Nat → Option Nat → Int32 → Int32 → Int32 → Int32 → Int32 → Int32 → Int32 → Int32 → Int32 → Int32 → Int32 → Int32 → Int32 → xH → Option xH
  | 0 => fun _ _ _ _ _ _ _ _ _ _ _ _ _ _ _ => none
  | n + 1 => fun o0 x1 x2 x3 x4 x5 x6 x7 x8 x9 x10 x11 x12 x13 h => (xcv h o0 11).bind fun _ => (fn208 o0 x12 h).bind fun r_1 => (if r_1.1 ≤ x13 then k257 o0 x1 x2 x3 x4 x5 x6 x7 x8 x9 x10 x11 (x12 + 1) r_1.2 else (xgR r_1.2 o0 11 60).bind fun a_3 => (xgR r_1.2 o0 11 62).bind fun a_4 => (xaI r_1.2 13 a_4 x12).bind fun v_5 => (xaI r_1.2 13 a_3 (v_5 + x13)).bind fun v_6 => (xcv r_1.2 o0 11).bind fun _ => (fn195 o0 v_6 r_1.2).bind fun h_7 => l211_283 k103 k257 n o0 x1 x2 x3 x4 x5 x6 x7 x8 x9 x10 x11 x12 (x13 + 1) h_7)
theorem l211_283_ok {xs : List Int32} {d : Nat} (hd : 6 ≤ d) {k103 : Option Nat → Int32 → Int32 → Int32 → Int32 → Int32 → Int32 → Int32 → Int32 → Int32 → xH → Option xH} {k257 : Option Nat → Int32 → Int32 → Int32 → Int32 → Int32 → Int32 → Int32 → Int32 → Int32 → Int32 → Int32 → Int32 → xH → Option xH} (hk103 : ∀ {u10 : Value} {u11 : Value} {u12 : Value} {u13 : Value} {o0 : Option Nat} {x1 : Int32} {x2 : Int32} {x3 : Int32} {x4 : Int32} {x5 : Int32} {x6 : Int32} {x7 : Int32} {x8 : Int32} {x9 : Int32} {h : xH} {r : xH}, u10.category = 1 → u11.category = 1 → u12.category = 1 → u13.category = 1 → k103 o0 x1 x2 x3 x4 x5 x6 x7 x8 x9 h = some r → xEv (xTa xs) d 211 (103, [xrv o0, .int x1, .int x2, .int x3, .int x4, .int x5, .int x6, .int x7, .int x8, .int x9, u10, u11, u12, u13], [], h) (none, r)) (hk257 : ∀ {u13 : Value} {o0 : Option Nat} {x1 : Int32} {x2 : Int32} {x3 : Int32} {x4 : Int32} {x5 : Int32} {x6 : Int32} {x7 : Int32} {x8 : Int32} {x9 : Int32} {x10 : Int32} {x11 : Int32} {x12 : Int32} {h : xH} {r : xH}, u13.category = 1 → k257 o0 x1 x2 x3 x4 x5 x6 x7 x8 x9 x10 x11 x12 h = some r → xEv (xTa xs) d 211 (257, [xrv o0, .int x1, .int x2, .int x3, .int x4, .int x5, .int x6, .int x7, .int x8, .int x9, .int x10, .int x11, .int x12, u13], [], h) (none, r)) : ∀ (n : Nat) {o0 : Option Nat} {x1 : Int32} {x2 : Int32} {x3 : Int32} {x4 : Int32} {x5 : Int32} {x6 : Int32} {x7 : Int32} {x8 : Int32} {x9 : Int32} {x10 : Int32} {x11 : Int32} {x12 : Int32} {x13 : Int32} {h : xH} {r : xH}, l211_283 k103 k257 n o0 x1 x2 x3 x4 x5 x6 x7 x8 x9 x10 x11 x12 x13 h = some r → xEv (xTa xs) d 211 (283, [xrv o0, .int x1, .int x2, .int x3, .int x4, .int x5, .int x6, .int x7, .int x8, .int x9, .int x10, .int x11, .int x12, .int x13], [], h) (none, r) := by
  intro n
  induction n with
  | zero => intros; rename_i hf; cases hf
  | succ n ih =>
    intro o0 x1 x2 x3 x4 x5 x6 x7 x8 x9 x10 x11 x12 x13 h r hf
    replace hf : ((xcv h o0 11).bind fun _ => (fn208 o0 x12 h).bind fun r_1 => (if r_1.1 ≤ x13 then k257 o0 x1 x2 x3 x4 x5 x6 x7 x8 x9 x10 x11 (x12 + 1) r_1.2 else (xgR r_1.2 o0 11 60).bind fun a_3 => (xgR r_1.2 o0 11 62).bind fun a_4 => (xaI r_1.2 13 a_4 x12).bind fun v_5 => (xaI r_1.2 13 a_3 (v_5 + x13)).bind fun v_6 => (xcv r_1.2 o0 11).bind fun _ => (fn195 o0 v_6 r_1.2).bind fun h_7 => l211_283 k103 k257 n o0 x1 x2 x3 x4 x5 x6 x7 x8 x9 x10 x11 x12 (x13 + 1) h_7)) = some r := hf
    refine ev_do i211_283 rfl ?_
    refine sh_aload (i' := 0) (n := 1) i211_285 (Or.inr ⟨rfl, by decide⟩) rfl ?_
    refine ev_do i211_286 rfl ?_
    obtain ⟨_, eu_9, hf⟩ := x_bind hf
    obtain ⟨r_1, er_1, hf⟩ := x_bind hf
    refine sh_inv (as := [.int x12]) (z := (some (.int r_1.1), r_1.2)) i211_288 v211_402 (Or.inl ⟨by decide, rfl⟩) m208 rfl (Nat.le_of_ble_eq_true rfl) eu_9 (fn208_call (by omega) er_1) ?_
    refine ev_icmp (t := 319) i211_291 rfl (fun c_2 => ?_) (fun c_2 => ?_)
    · replace hf := x_pos (show r_1.1 ≤ x13 from c_2) hf
      refine sh_inc (i' := 12) i211_319 rfl (xokst_of (Nat.le_of_ble_eq_true rfl) rfl) rfl ?_
      refine sh_goto (t := 257) i211_322 rfl ?_
      exact hk257 rfl hf
    · replace hf := x_neg (show ¬ r_1.1 ≤ x13 from c_2) hf
      refine sh_aload (i' := 0) (n := 1) i211_294 (Or.inr ⟨rfl, by decide⟩) rfl ?_
      refine sh_aload (i' := 0) (n := 1) i211_295 (Or.inr ⟨rfl, by decide⟩) rfl ?_
      obtain ⟨a_3, ea_3, hf⟩ := x_bind hf
      refine sh_getR i211_296 f211_116 ea_3 ?_
      refine sh_aload (i' := 0) (n := 1) i211_299 (Or.inr ⟨rfl, by decide⟩) rfl ?_
      obtain ⟨a_4, ea_4, hf⟩ := x_bind hf
      refine sh_getR i211_300 f211_119 ea_4 ?_
      refine ev_do i211_303 rfl ?_
      obtain ⟨v_5, ev_5, hf⟩ := x_bind hf
      refine sh_aldI (tg := 13) i211_305 (Or.inl ⟨rfl, rfl⟩) ev_5 ?_
      refine ev_do i211_306 rfl ?_
      refine ev_do i211_308 rfl ?_
      obtain ⟨v_6, ev_6, hf⟩ := x_bind hf
      refine sh_aldI (tg := 13) i211_309 (Or.inl ⟨rfl, rfl⟩) ev_6 ?_
      obtain ⟨_, eu_8, hf⟩ := x_bind hf
      obtain ⟨h_7, eh_7, hf⟩ := x_bind hf
      refine sh_inv (as := [.int v_6]) (z := (none, h_7)) i211_310 v211_359 (Or.inl ⟨by decide, rfl⟩) m195 rfl (Nat.le_of_ble_eq_true rfl) eu_8 (fn195_call (by omega) eh_7) ?_
      refine sh_inc (i' := 13) i211_313 rfl (xokst_of (Nat.le_of_ble_eq_true rfl) rfl) rfl ?_
      refine sh_goto (t := 283) i211_316 rfl ?_
      exact ih hf
def j211_280 (k103 : Option Nat → Int32 → Int32 → Int32 → Int32 → Int32 → Int32 → Int32 → Int32 → Int32 → xH → Option xH) (k257 : Option Nat → Int32 → Int32 → Int32 → Int32 → Int32 → Int32 → Int32 → Int32 → Int32 → Int32 → Int32 → Int32 → xH → Option xH) (o0 : Option Nat) (x1 : Int32) (x2 : Int32) (x3 : Int32) (x4 : Int32) (x5 : Int32) (x6 : Int32) (x7 : Int32) (x8 : Int32) (x9 : Int32) (x10 : Int32) (x11 : Int32) (x12 : Int32) (h : xH) : Option xH := l211_283 k103 k257 xFuel o0 x1 x2 x3 x4 x5 x6 x7 x8 x9 x10 x11 x12 0 h
theorem j211_280_ok {xs : List Int32} {d : Nat} (hd : 6 ≤ d) {k103 : Option Nat → Int32 → Int32 → Int32 → Int32 → Int32 → Int32 → Int32 → Int32 → Int32 → xH → Option xH} {k257 : Option Nat → Int32 → Int32 → Int32 → Int32 → Int32 → Int32 → Int32 → Int32 → Int32 → Int32 → Int32 → Int32 → xH → Option xH} (hk103 : ∀ {u10 : Value} {u11 : Value} {u12 : Value} {u13 : Value} {o0 : Option Nat} {x1 : Int32} {x2 : Int32} {x3 : Int32} {x4 : Int32} {x5 : Int32} {x6 : Int32} {x7 : Int32} {x8 : Int32} {x9 : Int32} {h : xH} {r : xH}, u10.category = 1 → u11.category = 1 → u12.category = 1 → u13.category = 1 → k103 o0 x1 x2 x3 x4 x5 x6 x7 x8 x9 h = some r → xEv (xTa xs) d 211 (103, [xrv o0, .int x1, .int x2, .int x3, .int x4, .int x5, .int x6, .int x7, .int x8, .int x9, u10, u11, u12, u13], [], h) (none, r)) (hk257 : ∀ {u13 : Value} {o0 : Option Nat} {x1 : Int32} {x2 : Int32} {x3 : Int32} {x4 : Int32} {x5 : Int32} {x6 : Int32} {x7 : Int32} {x8 : Int32} {x9 : Int32} {x10 : Int32} {x11 : Int32} {x12 : Int32} {h : xH} {r : xH}, u13.category = 1 → k257 o0 x1 x2 x3 x4 x5 x6 x7 x8 x9 x10 x11 x12 h = some r → xEv (xTa xs) d 211 (257, [xrv o0, .int x1, .int x2, .int x3, .int x4, .int x5, .int x6, .int x7, .int x8, .int x9, .int x10, .int x11, .int x12, u13], [], h) (none, r)) {u13 : Value} {o0 : Option Nat} {x1 : Int32} {x2 : Int32} {x3 : Int32} {x4 : Int32} {x5 : Int32} {x6 : Int32} {x7 : Int32} {x8 : Int32} {x9 : Int32} {x10 : Int32} {x11 : Int32} {x12 : Int32} {h : xH} {r : xH} (hu13 : u13.category = 1) (hf : j211_280 k103 k257 o0 x1 x2 x3 x4 x5 x6 x7 x8 x9 x10 x11 x12 h = some r) : xEv (xTa xs) d 211 (280, [xrv o0, .int x1, .int x2, .int x3, .int x4, .int x5, .int x6, .int x7, .int x8, .int x9, .int x10, .int x11, .int x12, u13], [], h) (none, r) := by
  unfold j211_280 at hf
  refine ev_do i211_280 rfl ?_
  refine sh_istore (i' := 13) (n := 2) i211_281 (Or.inl rfl) (xokst_of (Nat.le_of_ble_eq_true rfl) rfl) ?_
  exact l211_283_ok hd hk103 hk257 xFuel hf
def l211_257 (k103 : Option Nat → Int32 → Int32 → Int32 → Int32 → Int32 → Int32 → Int32 → Int32 → Int32 → xH → Option xH) : Nat → Option Nat → Int32 → Int32 → Int32 → Int32 → Int32 → Int32 → Int32 → Int32 → Int32 → Int32 → Int32 → Int32 → xH → Option xH
  | 0 => fun _ _ _ _ _ _ _ _ _ _ _ _ _ _ => none
  | n + 1 => fun o0 x1 x2 x3 x4 x5 x6 x7 x8 x9 x10 x11 x12 h => (if (x8 + x11) ≤ x12 then (xcv h o0 11).bind fun _ => (fn198 o0 h).bind fun h_2 => k103 o0 x1 x2 x3 x4 x5 x6 x7 (x8 + x11) 0 h_2 else (if x12 ≤ x8 then j211_280 k103 (l211_257 k103 n) o0 x1 x2 x3 x4 x5 x6 x7 x8 x9 x10 x11 x12 h else (xcv h o0 11).bind fun _ => (fn195 o0 32 h).bind fun h_5 => j211_280 k103 (l211_257 k103 n) o0 x1 x2 x3 x4 x5 x6 x7 x8 x9 x10 x11 x12 h_5))
theorem l211_257_ok {xs : List Int32} {d : Nat} (hd : 6 ≤ d) {k103 : Option Nat → Int32 → Int32 → Int32 → Int32 → Int32 → Int32 → Int32 → Int32 → Int32 → xH → Option xH} (hk103 : ∀ {u10 : Value} {u11 : Value} {u12 : Value} {u13 : Value} {o0 : Option Nat} {x1 : Int32} {x2 : Int32} {x3 : Int32} {x4 : Int32} {x5 : Int32} {x6 : Int32} {x7 : Int32} {x8 : Int32} {x9 : Int32} {h : xH} {r : xH}, u10.category = 1 → u11.category = 1 → u12.category = 1 → u13.category = 1 → k103 o0 x1 x2 x3 x4 x5 x6 x7 x8 x9 h = some r → xEv (xTa xs) d 211 (103, [xrv o0, .int x1, .int x2, .int x3, .int x4, .int x5, .int x6, .int x7, .int x8, .int x9, u10, u11, u12, u13], [], h) (none, r)) : ∀ (n : Nat) {u13 : Value} {o0 : Option Nat} {x1 : Int32} {x2 : Int32} {x3 : Int32} {x4 : Int32} {x5 : Int32} {x6 : Int32} {x7 : Int32} {x8 : Int32} {x9 : Int32} {x10 : Int32} {x11 : Int32} {x12 : Int32} {h : xH} {r : xH} (hu13 : u13.category = 1), l211_257 k103 n o0 x1 x2 x3 x4 x5 x6 x7 x8 x9 x10 x11 x12 h = some r → xEv (xTa xs) d 211 (257, [xrv o0, .int x1, .int x2, .int x3, .int x4, .int x5, .int x6, .int x7, .int x8, .int x9, .int x10, .int x11, .int x12, u13], [], h) (none, r) := by
  intro n
  induction n with
  | zero => intros; rename_i hf; cases hf
  | succ n ih =>
    intro u13 o0 x1 x2 x3 x4 x5 x6 x7 x8 x9 x10 x11 x12 h r hu13 hf
    replace hf : ((if (x8 + x11) ≤ x12 then (xcv h o0 11).bind fun _ => (fn198 o0 h).bind fun h_2 => k103 o0 x1 x2 x3 x4 x5 x6 x7 (x8 + x11) 0 h_2 else (if x12 ≤ x8 then j211_280 k103 (l211_257 k103 n) o0 x1 x2 x3 x4 x5 x6 x7 x8 x9 x10 x11 x12 h else (xcv h o0 11).bind fun _ => (fn195 o0 32 h).bind fun h_5 => j211_280 k103 (l211_257 k103 n) o0 x1 x2 x3 x4 x5 x6 x7 x8 x9 x10 x11 x12 h_5))) = some r := hf
    refine ev_do i211_257 rfl ?_
    refine ev_do i211_259 rfl ?_
    refine ev_do i211_261 rfl ?_
    refine ev_do i211_263 rfl ?_
    refine ev_icmp (t := 325) i211_264 rfl (fun c_1 => ?_) (fun c_1 => ?_)
    · replace hf := x_pos (show (x8 + x11) ≤ x12 from c_1) hf
      refine sh_aload (i' := 0) (n := 1) i211_325 (Or.inr ⟨rfl, by decide⟩) rfl ?_
      obtain ⟨_, eu_3, hf⟩ := x_bind hf
      obtain ⟨h_2, eh_2, hf⟩ := x_bind hf
      refine sh_inv (as := []) (z := (none, h_2)) i211_326 v211_371 (Or.inl ⟨by decide, rfl⟩) m198 rfl (Nat.le_of_ble_eq_true rfl) eu_3 (fn198_call (by omega) eh_2) ?_
      refine ev_do i211_329 rfl ?_
      refine ev_do i211_331 rfl ?_
      refine ev_do i211_333 rfl ?_
      refine sh_istore (i' := 8) (n := 2) i211_334 (Or.inl rfl) (xokst_of (Nat.le_of_ble_eq_true rfl) rfl) ?_
      refine ev_do i211_336 rfl ?_
      refine sh_istore (i' := 9) (n := 2) i211_337 (Or.inl rfl) (xokst_of (Nat.le_of_ble_eq_true rfl) rfl) ?_
      refine sh_goto (t := 103) i211_339 rfl ?_
      exact hk103 rfl rfl rfl hu13 hf
    · replace hf := x_neg (show ¬ (x8 + x11) ≤ x12 from c_1) hf
      refine ev_do i211_267 rfl ?_
      refine ev_do i211_269 rfl ?_
      refine ev_icmp (t := 280) i211_271 rfl (fun c_4 => ?_) (fun c_4 => ?_)
      · replace hf := x_pos (show x12 ≤ x8 from c_4) hf
        exact j211_280_ok hd hk103 ih hu13 hf
      · replace hf := x_neg (show ¬ x12 ≤ x8 from c_4) hf
        refine sh_aload (i' := 0) (n := 1) i211_274 (Or.inr ⟨rfl, by decide⟩) rfl ?_
        refine ev_do i211_275 rfl ?_
        obtain ⟨_, eu_6, hf⟩ := x_bind hf
        obtain ⟨h_5, eh_5, hf⟩ := x_bind hf
        refine sh_inv (as := [.int 32]) (z := (none, h_5)) i211_277 v211_359 (Or.inl ⟨by decide, rfl⟩) m195 rfl (Nat.le_of_ble_eq_true rfl) eu_6 (fn195_call (by omega) eh_5) ?_
        exact j211_280_ok hd hk103 ih hu13 hf
def j211_251 (k103 : Option Nat → Int32 → Int32 → Int32 → Int32 → Int32 → Int32 → Int32 → Int32 → Int32 → xH → Option xH) (o0 : Option Nat) (x1 : Int32) (x2 : Int32) (x3 : Int32) (x4 : Int32) (x5 : Int32) (x6 : Int32) (x7 : Int32) (x8 : Int32) (x9 : Int32) (x10 : Int32) (x11 : Int32) (s0 : Int32) (h : xH) : Option xH := l211_257 k103 xFuel o0 x1 x2 x3 x4 x5 x6 x7 x8 x9 x10 s0 x8 h
theorem j211_251_ok {xs : List Int32} {d : Nat} (hd : 6 ≤ d) {k103 : Option Nat → Int32 → Int32 → Int32 → Int32 → Int32 → Int32 → Int32 → Int32 → Int32 → xH → Option xH} (hk103 : ∀ {u10 : Value} {u11 : Value} {u12 : Value} {u13 : Value} {o0 : Option Nat} {x1 : Int32} {x2 : Int32} {x3 : Int32} {x4 : Int32} {x5 : Int32} {x6 : Int32} {x7 : Int32} {x8 : Int32} {x9 : Int32} {h : xH} {r : xH}, u10.category = 1 → u11.category = 1 → u12.category = 1 → u13.category = 1 → k103 o0 x1 x2 x3 x4 x5 x6 x7 x8 x9 h = some r → xEv (xTa xs) d 211 (103, [xrv o0, .int x1, .int x2, .int x3, .int x4, .int x5, .int x6, .int x7, .int x8, .int x9, u10, u11, u12, u13], [], h) (none, r)) {u12 : Value} {u13 : Value} {o0 : Option Nat} {x1 : Int32} {x2 : Int32} {x3 : Int32} {x4 : Int32} {x5 : Int32} {x6 : Int32} {x7 : Int32} {x8 : Int32} {x9 : Int32} {x10 : Int32} {x11 : Int32} {s0 : Int32} {h : xH} {r : xH} (hu12 : u12.category = 1) (hu13 : u13.category = 1) (hf : j211_251 k103 o0 x1 x2 x3 x4 x5 x6 x7 x8 x9 x10 x11 s0 h = some r) : xEv (xTa xs) d 211 (251, [xrv o0, .int x1, .int x2, .int x3, .int x4, .int x5, .int x6, .int x7, .int x8, .int x9, .int x10, .int x11, u12, u13], [.int s0], h) (none, r) := by
  unfold j211_251 at hf
  refine sh_istore (i' := 11) (n := 2) i211_251 (Or.inl rfl) (xokst_of (Nat.le_of_ble_eq_true rfl) rfl) ?_
  refine ev_do i211_253 rfl ?_
  refine sh_istore (i' := 12) (n := 2) i211_255 (Or.inl rfl) (xokst_of (Nat.le_of_ble_eq_true rfl) rfl) ?_
  exact l211_257_ok hd hk103 xFuel hu13 hf
def j211_225 (k103 : Option Nat → Int32 → Int32 → Int32 → Int32 → Int32 → Int32 → Int32 → Int32 → Int32 → xH → Option xH) (k138 : Option Nat → Int32 → Int32 → Int32 → Int32 → Int32 → Int32 → Int32 → Int32 → Int32 → Int32 → Int32 → xH → Option xH) (o0 : Option Nat) (x1 : Int32) (x2 : Int32) (x3 : Int32) (x4 : Int32) (x5 : Int32) (x6 : Int32) (x7 : Int32) (x8 : Int32) (x9 : Int32) (x10 : Int32) (x11 : Int32) (x12 : Int32) (x13 : Int32) (h : xH) : Option xH := k138 o0 x1 x2 x3 x4 x5 x6 x7 x8 x9 x10 (x11 + 1) h
theorem j211_225_ok {xs : List Int32} {d : Nat} (hd : 6 ≤ d) {k103 : Option Nat → Int32 → Int32 → Int32 → Int32 → Int32 → Int32 → Int32 → Int32 → Int32 → xH → Option xH} {k138 : Option Nat → Int32 → Int32 → Int32 → Int32 → Int32 → Int32 → Int32 → Int32 → Int32 → Int32 → Int32 → xH → Option xH} (hk103 : ∀ {u10 : Value} {u11 : Value} {u12 : Value} {u13 : Value} {o0 : Option Nat} {x1 : Int32} {x2 : Int32} {x3 : Int32} {x4 : Int32} {x5 : Int32} {x6 : Int32} {x7 : Int32} {x8 : Int32} {x9 : Int32} {h : xH} {r : xH}, u10.category = 1 → u11.category = 1 → u12.category = 1 → u13.category = 1 → k103 o0 x1 x2 x3 x4 x5 x6 x7 x8 x9 h = some r → xEv (xTa xs) d 211 (103, [xrv o0, .int x1, .int x2, .int x3, .int x4, .int x5, .int x6, .int x7, .int x8, .int x9, u10, u11, u12, u13], [], h) (none, r)) (hk138 : ∀ {u12 : Value} {u13 : Value} {o0 : Option Nat} {x1 : Int32} {x2 : Int32} {x3 : Int32} {x4 : Int32} {x5 : Int32} {x6 : Int32} {x7 : Int32} {x8 : Int32} {x9 : Int32} {x10 : Int32} {x11 : Int32} {h : xH} {r : xH}, u12.category = 1 → u13.category = 1 → k138 o0 x1 x2 x3 x4 x5 x6 x7 x8 x9 x10 x11 h = some r → xEv (xTa xs) d 211 (138, [xrv o0, .int x1, .int x2, .int x3, .int x4, .int x5, .int x6, .int x7, .int x8, .int x9, .int x10, .int x11, u12, u13], [], h) (none, r)) {o0 : Option Nat} {x1 : Int32} {x2 : Int32} {x3 : Int32} {x4 : Int32} {x5 : Int32} {x6 : Int32} {x7 : Int32} {x8 : Int32} {x9 : Int32} {x10 : Int32} {x11 : Int32} {x12 : Int32} {x13 : Int32} {h : xH} {r : xH} (hf : j211_225 k103 k138 o0 x1 x2 x3 x4 x5 x6 x7 x8 x9 x10 x11 x12 x13 h = some r) : xEv (xTa xs) d 211 (225, [xrv o0, .int x1, .int x2, .int x3, .int x4, .int x5, .int x6, .int x7, .int x8, .int x9, .int x10, .int x11, .int x12, .int x13], [], h) (none, r) := by
  unfold j211_225 at hf
  refine sh_inc (i' := 11) i211_225 rfl (xokst_of (Nat.le_of_ble_eq_true rfl) rfl) rfl ?_
  refine sh_goto (t := 138) i211_228 rfl ?_
  exact hk138 rfl rfl hf
def j211_222 (k103 : Option Nat → Int32 → Int32 → Int32 → Int32 → Int32 → Int32 → Int32 → Int32 → Int32 → xH → Option xH) (k138 : Option Nat → Int32 → Int32 → Int32 → Int32 → Int32 → Int32 → Int32 → Int32 → Int32 → Int32 → Int32 → xH → Option xH) (o0 : Option Nat) (x1 : Int32) (x2 : Int32) (x3 : Int32) (x4 : Int32) (x5 : Int32) (x6 : Int32) (x7 : Int32) (x8 : Int32) (x9 : Int32) (x10 : Int32) (x11 : Int32) (x12 : Int32) (x13 : Int32) (s0 : Option Nat) (s1 : Int32) (h : xH) : Option xH := (xcv h s0 11).bind fun _ => (fn195 s0 s1 h).bind fun h_1 => j211_225 k103 k138 o0 x1 x2 x3 x4 x5 x6 x7 x8 x9 x10 x11 x12 x13 h_1
theorem j211_222_ok {xs : List Int32} {d : Nat} (hd : 6 ≤ d) {k103 : Option Nat → Int32 → Int32 → Int32 → Int32 → Int32 → Int32 → Int32 → Int32 → Int32 → xH → Option xH} {k138 : Option Nat → Int32 → Int32 → Int32 → Int32 → Int32 → Int32 → Int32 → Int32 → Int32 → Int32 → Int32 → xH → Option xH} (hk103 : ∀ {u10 : Value} {u11 : Value} {u12 : Value} {u13 : Value} {o0 : Option Nat} {x1 : Int32} {x2 : Int32} {x3 : Int32} {x4 : Int32} {x5 : Int32} {x6 : Int32} {x7 : Int32} {x8 : Int32} {x9 : Int32} {h : xH} {r : xH}, u10.category = 1 → u11.category = 1 → u12.category = 1 → u13.category = 1 → k103 o0 x1 x2 x3 x4 x5 x6 x7 x8 x9 h = some r → xEv (xTa xs) d 211 (103, [xrv o0, .int x1, .int x2, .int x3, .int x4, .int x5, .int x6, .int x7, .int x8, .int x9, u10, u11, u12, u13], [], h) (none, r)) (hk138 : ∀ {u12 : Value} {u13 : Value} {o0 : Option Nat} {x1 : Int32} {x2 : Int32} {x3 : Int32} {x4 : Int32} {x5 : Int32} {x6 : Int32} {x7 : Int32} {x8 : Int32} {x9 : Int32} {x10 : Int32} {x11 : Int32} {h : xH} {r : xH}, u12.category = 1 → u13.category = 1 → k138 o0 x1 x2 x3 x4 x5 x6 x7 x8 x9 x10 x11 h = some r → xEv (xTa xs) d 211 (138, [xrv o0, .int x1, .int x2, .int x3, .int x4, .int x5, .int x6, .int x7, .int x8, .int x9, .int x10, .int x11, u12, u13], [], h) (none, r)) {o0 : Option Nat} {x1 : Int32} {x2 : Int32} {x3 : Int32} {x4 : Int32} {x5 : Int32} {x6 : Int32} {x7 : Int32} {x8 : Int32} {x9 : Int32} {x10 : Int32} {x11 : Int32} {x12 : Int32} {x13 : Int32} {s0 : Option Nat} {s1 : Int32} {h : xH} {r : xH} (hf : j211_222 k103 k138 o0 x1 x2 x3 x4 x5 x6 x7 x8 x9 x10 x11 x12 x13 s0 s1 h = some r) : xEv (xTa xs) d 211 (222, [xrv o0, .int x1, .int x2, .int x3, .int x4, .int x5, .int x6, .int x7, .int x8, .int x9, .int x10, .int x11, .int x12, .int x13], [.int s1, xrv s0], h) (none, r) := by
  unfold j211_222 at hf
  obtain ⟨_, eu_2, hf⟩ := x_bind hf
  obtain ⟨h_1, eh_1, hf⟩ := x_bind hf
  refine sh_inv (as := [.int s1]) (z := (none, h_1)) i211_222 v211_359 (Or.inl ⟨by decide, rfl⟩) m195 rfl (Nat.le_of_ble_eq_true rfl) eu_2 (fn195_call (by omega) eh_1) ?_
  exact j211_225_ok hd hk103 hk138 hf
def j211_202 (k103 : Option Nat → Int32 → Int32 → Int32 → Int32 → Int32 → Int32 → Int32 → Int32 → Int32 → xH → Option xH) (k138 : Option Nat → Int32 → Int32 → Int32 → Int32 → Int32 → Int32 → Int32 → Int32 → Int32 → Int32 → Int32 → xH → Option xH) (o0 : Option Nat) (x1 : Int32) (x2 : Int32) (x3 : Int32) (x4 : Int32) (x5 : Int32) (x6 : Int32) (x7 : Int32) (x8 : Int32) (x9 : Int32) (x10 : Int32) (x11 : Int32) (x12 : Int32) (s0 : Int32) (h : xH) : Option xH := (if s0 = 0 then (if x12 = 0 then j211_222 k103 k138 o0 x1 x2 x3 x4 x5 x6 x7 x8 x9 x10 x11 x12 s0 o0 32 h else j211_222 k103 k138 o0 x1 x2 x3 x4 x5 x6 x7 x8 x9 x10 x11 x12 s0 o0 45 h) else j211_225 k103 k138 o0 x1 x2 x3 x4 x5 x6 x7 x8 x9 x10 x11 x12 s0 h)
theorem j211_202_ok {xs : List Int32} {d : Nat} (hd : 6 ≤ d) {k103 : Option Nat → Int32 → Int32 → Int32 → Int32 → Int32 → Int32 → Int32 → Int32 → Int32 → xH → Option xH} {k138 : Option Nat → Int32 → Int32 → Int32 → Int32 → Int32 → Int32 → Int32 → Int32 → Int32 → Int32 → Int32 → xH → Option xH} (hk103 : ∀ {u10 : Value} {u11 : Value} {u12 : Value} {u13 : Value} {o0 : Option Nat} {x1 : Int32} {x2 : Int32} {x3 : Int32} {x4 : Int32} {x5 : Int32} {x6 : Int32} {x7 : Int32} {x8 : Int32} {x9 : Int32} {h : xH} {r : xH}, u10.category = 1 → u11.category = 1 → u12.category = 1 → u13.category = 1 → k103 o0 x1 x2 x3 x4 x5 x6 x7 x8 x9 h = some r → xEv (xTa xs) d 211 (103, [xrv o0, .int x1, .int x2, .int x3, .int x4, .int x5, .int x6, .int x7, .int x8, .int x9, u10, u11, u12, u13], [], h) (none, r)) (hk138 : ∀ {u12 : Value} {u13 : Value} {o0 : Option Nat} {x1 : Int32} {x2 : Int32} {x3 : Int32} {x4 : Int32} {x5 : Int32} {x6 : Int32} {x7 : Int32} {x8 : Int32} {x9 : Int32} {x10 : Int32} {x11 : Int32} {h : xH} {r : xH}, u12.category = 1 → u13.category = 1 → k138 o0 x1 x2 x3 x4 x5 x6 x7 x8 x9 x10 x11 h = some r → xEv (xTa xs) d 211 (138, [xrv o0, .int x1, .int x2, .int x3, .int x4, .int x5, .int x6, .int x7, .int x8, .int x9, .int x10, .int x11, u12, u13], [], h) (none, r)) {u13 : Value} {o0 : Option Nat} {x1 : Int32} {x2 : Int32} {x3 : Int32} {x4 : Int32} {x5 : Int32} {x6 : Int32} {x7 : Int32} {x8 : Int32} {x9 : Int32} {x10 : Int32} {x11 : Int32} {x12 : Int32} {s0 : Int32} {h : xH} {r : xH} (hu13 : u13.category = 1) (hf : j211_202 k103 k138 o0 x1 x2 x3 x4 x5 x6 x7 x8 x9 x10 x11 x12 s0 h = some r) : xEv (xTa xs) d 211 (202, [xrv o0, .int x1, .int x2, .int x3, .int x4, .int x5, .int x6, .int x7, .int x8, .int x9, .int x10, .int x11, .int x12, u13], [.int s0], h) (none, r) := by
  unfold j211_202 at hf
  refine sh_istore (i' := 13) (n := 2) i211_202 (Or.inl rfl) (xokst_of (Nat.le_of_ble_eq_true rfl) rfl) ?_
  refine ev_do i211_204 rfl ?_
  refine ev_if (t := 225) i211_206 rfl (fun c_1 => ?_) (fun c_1 => ?_)
  · replace hf := x_neg (show ¬ s0 = 0 from c_1) hf
    exact j211_225_ok hd hk103 hk138 hf
  · replace hf := x_pos (show s0 = 0 from Decidable.byContradiction (fun h9 => c_1 h9)) hf
    refine sh_aload (i' := 0) (n := 1) i211_209 (Or.inr ⟨rfl, by decide⟩) rfl ?_
    refine ev_do i211_210 rfl ?_
    refine ev_if (t := 220) i211_212 rfl (fun c_2 => ?_) (fun c_2 => ?_)
    · replace hf := x_pos (show x12 = 0 from c_2) hf
      refine ev_do i211_220 rfl ?_
      exact j211_222_ok hd hk103 hk138 hf
    · replace hf := x_neg (show ¬ x12 = 0 from c_2) hf
      refine ev_do i211_215 rfl ?_
      refine sh_goto (t := 222) i211_217 rfl ?_
      exact j211_222_ok hd hk103 hk138 hf
def j211_201 (k103 : Option Nat → Int32 → Int32 → Int32 → Int32 → Int32 → Int32 → Int32 → Int32 → Int32 → xH → Option xH) (k138 : Option Nat → Int32 → Int32 → Int32 → Int32 → Int32 → Int32 → Int32 → Int32 → Int32 → Int32 → Int32 → xH → Option xH) (o0 : Option Nat) (x1 : Int32) (x2 : Int32) (x3 : Int32) (x4 : Int32) (x5 : Int32) (x6 : Int32) (x7 : Int32) (x8 : Int32) (x9 : Int32) (x10 : Int32) (x11 : Int32) (x12 : Int32) (h : xH) : Option xH := j211_202 k103 k138 o0 x1 x2 x3 x4 x5 x6 x7 x8 x9 x10 x11 x12 0 h
theorem j211_201_ok {xs : List Int32} {d : Nat} (hd : 6 ≤ d) {k103 : Option Nat → Int32 → Int32 → Int32 → Int32 → Int32 → Int32 → Int32 → Int32 → Int32 → xH → Option xH} {k138 : Option Nat → Int32 → Int32 → Int32 → Int32 → Int32 → Int32 → Int32 → Int32 → Int32 → Int32 → Int32 → xH → Option xH} (hk103 : ∀ {u10 : Value} {u11 : Value} {u12 : Value} {u13 : Value} {o0 : Option Nat} {x1 : Int32} {x2 : Int32} {x3 : Int32} {x4 : Int32} {x5 : Int32} {x6 : Int32} {x7 : Int32} {x8 : Int32} {x9 : Int32} {h : xH} {r : xH}, u10.category = 1 → u11.category = 1 → u12.category = 1 → u13.category = 1 → k103 o0 x1 x2 x3 x4 x5 x6 x7 x8 x9 h = some r → xEv (xTa xs) d 211 (103, [xrv o0, .int x1, .int x2, .int x3, .int x4, .int x5, .int x6, .int x7, .int x8, .int x9, u10, u11, u12, u13], [], h) (none, r)) (hk138 : ∀ {u12 : Value} {u13 : Value} {o0 : Option Nat} {x1 : Int32} {x2 : Int32} {x3 : Int32} {x4 : Int32} {x5 : Int32} {x6 : Int32} {x7 : Int32} {x8 : Int32} {x9 : Int32} {x10 : Int32} {x11 : Int32} {h : xH} {r : xH}, u12.category = 1 → u13.category = 1 → k138 o0 x1 x2 x3 x4 x5 x6 x7 x8 x9 x10 x11 h = some r → xEv (xTa xs) d 211 (138, [xrv o0, .int x1, .int x2, .int x3, .int x4, .int x5, .int x6, .int x7, .int x8, .int x9, .int x10, .int x11, u12, u13], [], h) (none, r)) {u13 : Value} {o0 : Option Nat} {x1 : Int32} {x2 : Int32} {x3 : Int32} {x4 : Int32} {x5 : Int32} {x6 : Int32} {x7 : Int32} {x8 : Int32} {x9 : Int32} {x10 : Int32} {x11 : Int32} {x12 : Int32} {h : xH} {r : xH} (hu13 : u13.category = 1) (hf : j211_201 k103 k138 o0 x1 x2 x3 x4 x5 x6 x7 x8 x9 x10 x11 x12 h = some r) : xEv (xTa xs) d 211 (201, [xrv o0, .int x1, .int x2, .int x3, .int x4, .int x5, .int x6, .int x7, .int x8, .int x9, .int x10, .int x11, .int x12, u13], [], h) (none, r) := by
  unfold j211_201 at hf
  refine ev_do i211_201 rfl ?_
  exact j211_202_ok hd hk103 hk138 hu13 hf
def j211_169 (k103 : Option Nat → Int32 → Int32 → Int32 → Int32 → Int32 → Int32 → Int32 → Int32 → Int32 → xH → Option xH) (k138 : Option Nat → Int32 → Int32 → Int32 → Int32 → Int32 → Int32 → Int32 → Int32 → Int32 → Int32 → Int32 → xH → Option xH) (o0 : Option Nat) (x1 : Int32) (x2 : Int32) (x3 : Int32) (x4 : Int32) (x5 : Int32) (x6 : Int32) (x7 : Int32) (x8 : Int32) (x9 : Int32) (x10 : Int32) (x11 : Int32) (s0 : Int32) (h : xH) : Option xH := (if x5 = 0 then j211_201 k103 k138 o0 x1 x2 x3 x4 x5 x6 x7 x8 x9 x10 x11 s0 h else (if x9 = 0 then j211_201 k103 k138 o0 x1 x2 x3 x4 x5 x6 x7 x8 x9 x10 x11 s0 h else (if x11 = (x10 - 1) then (xgI h o0 11 63).bind fun v_4 => (if v_4 = 0 then j211_202 k103 k138 o0 x1 x2 x3 x4 x5 x6 x7 x8 x9 x10 x11 s0 1 h else j211_201 k103 k138 o0 x1 x2 x3 x4 x5 x6 x7 x8 x9 x10 x11 s0 h) else j211_201 k103 k138 o0 x1 x2 x3 x4 x5 x6 x7 x8 x9 x10 x11 s0 h)))
theorem j211_169_ok {xs : List Int32} {d : Nat} (hd : 6 ≤ d) {k103 : Option Nat → Int32 → Int32 → Int32 → Int32 → Int32 → Int32 → Int32 → Int32 → Int32 → xH → Option xH} {k138 : Option Nat → Int32 → Int32 → Int32 → Int32 → Int32 → Int32 → Int32 → Int32 → Int32 → Int32 → Int32 → xH → Option xH} (hk103 : ∀ {u10 : Value} {u11 : Value} {u12 : Value} {u13 : Value} {o0 : Option Nat} {x1 : Int32} {x2 : Int32} {x3 : Int32} {x4 : Int32} {x5 : Int32} {x6 : Int32} {x7 : Int32} {x8 : Int32} {x9 : Int32} {h : xH} {r : xH}, u10.category = 1 → u11.category = 1 → u12.category = 1 → u13.category = 1 → k103 o0 x1 x2 x3 x4 x5 x6 x7 x8 x9 h = some r → xEv (xTa xs) d 211 (103, [xrv o0, .int x1, .int x2, .int x3, .int x4, .int x5, .int x6, .int x7, .int x8, .int x9, u10, u11, u12, u13], [], h) (none, r)) (hk138 : ∀ {u12 : Value} {u13 : Value} {o0 : Option Nat} {x1 : Int32} {x2 : Int32} {x3 : Int32} {x4 : Int32} {x5 : Int32} {x6 : Int32} {x7 : Int32} {x8 : Int32} {x9 : Int32} {x10 : Int32} {x11 : Int32} {h : xH} {r : xH}, u12.category = 1 → u13.category = 1 → k138 o0 x1 x2 x3 x4 x5 x6 x7 x8 x9 x10 x11 h = some r → xEv (xTa xs) d 211 (138, [xrv o0, .int x1, .int x2, .int x3, .int x4, .int x5, .int x6, .int x7, .int x8, .int x9, .int x10, .int x11, u12, u13], [], h) (none, r)) {u12 : Value} {u13 : Value} {o0 : Option Nat} {x1 : Int32} {x2 : Int32} {x3 : Int32} {x4 : Int32} {x5 : Int32} {x6 : Int32} {x7 : Int32} {x8 : Int32} {x9 : Int32} {x10 : Int32} {x11 : Int32} {s0 : Int32} {h : xH} {r : xH} (hu12 : u12.category = 1) (hu13 : u13.category = 1) (hf : j211_169 k103 k138 o0 x1 x2 x3 x4 x5 x6 x7 x8 x9 x10 x11 s0 h = some r) : xEv (xTa xs) d 211 (169, [xrv o0, .int x1, .int x2, .int x3, .int x4, .int x5, .int x6, .int x7, .int x8, .int x9, .int x10, .int x11, u12, u13], [.int s0], h) (none, r) := by
  unfold j211_169 at hf
  refine sh_istore (i' := 12) (n := 2) i211_169 (Or.inl rfl) (xokst_of (Nat.le_of_ble_eq_true rfl) rfl) ?_
  refine ev_do i211_171 rfl ?_
  refine ev_if (t := 201) i211_173 rfl (fun c_1 => ?_) (fun c_1 => ?_)
  · replace hf := x_pos (show x5 = 0 from c_1) hf
    exact j211_201_ok hd hk103 hk138 hu13 hf
  · replace hf := x_neg (show ¬ x5 = 0 from c_1) hf
    refine ev_do i211_176 rfl ?_
    refine ev_if (t := 201) i211_178 rfl (fun c_2 => ?_) (fun c_2 => ?_)
    · replace hf := x_pos (show x9 = 0 from c_2) hf
      exact j211_201_ok hd hk103 hk138 hu13 hf
    · replace hf := x_neg (show ¬ x9 = 0 from c_2) hf
      refine ev_do i211_181 rfl ?_
      refine ev_do i211_183 rfl ?_
      refine ev_do i211_185 rfl ?_
      refine ev_do i211_186 rfl ?_
      refine ev_icmp (t := 201) i211_187 rfl (fun c_3 => ?_) (fun c_3 => ?_)
      · replace hf := x_neg (show ¬ x11 = (x10 - 1) from c_3) hf
        exact j211_201_ok hd hk103 hk138 hu13 hf
      · replace hf := x_pos (show x11 = (x10 - 1) from Decidable.byContradiction (fun h9 => c_3 h9)) hf
        refine sh_aload (i' := 0) (n := 1) i211_190 (Or.inr ⟨rfl, by decide⟩) rfl ?_
        obtain ⟨v_4, ev_4, hf⟩ := x_bind hf
        refine sh_getI i211_191 f211_377 ev_4 ?_
        refine ev_if (t := 201) i211_194 rfl (fun c_5 => ?_) (fun c_5 => ?_)
        · replace hf := x_neg (show ¬ v_4 = 0 from c_5) hf
          exact j211_201_ok hd hk103 hk138 hu13 hf
        · replace hf := x_pos (show v_4 = 0 from Decidable.byContradiction (fun h9 => c_5 h9)) hf
          refine ev_do i211_197 rfl ?_
          refine sh_goto (t := 202) i211_198 rfl ?_
          exact j211_202_ok hd hk103 hk138 hu13 hf
def j211_168 (k103 : Option Nat → Int32 → Int32 → Int32 → Int32 → Int32 → Int32 → Int32 → Int32 → Int32 → xH → Option xH) (k138 : Option Nat → Int32 → Int32 → Int32 → Int32 → Int32 → Int32 → Int32 → Int32 → Int32 → Int32 → Int32 → xH → Option xH) (o0 : Option Nat) (x1 : Int32) (x2 : Int32) (x3 : Int32) (x4 : Int32) (x5 : Int32) (x6 : Int32) (x7 : Int32) (x8 : Int32) (x9 : Int32) (x10 : Int32) (x11 : Int32) (h : xH) : Option xH := j211_169 k103 k138 o0 x1 x2 x3 x4 x5 x6 x7 x8 x9 x10 x11 0 h
theorem j211_168_ok {xs : List Int32} {d : Nat} (hd : 6 ≤ d) {k103 : Option Nat → Int32 → Int32 → Int32 → Int32 → Int32 → Int32 → Int32 → Int32 → Int32 → xH → Option xH} {k138 : Option Nat → Int32 → Int32 → Int32 → Int32 → Int32 → Int32 → Int32 → Int32 → Int32 → Int32 → Int32 → xH → Option xH} (hk103 : ∀ {u10 : Value} {u11 : Value} {u12 : Value} {u13 : Value} {o0 : Option Nat} {x1 : Int32} {x2 : Int32} {x3 : Int32} {x4 : Int32} {x5 : Int32} {x6 : Int32} {x7 : Int32} {x8 : Int32} {x9 : Int32} {h : xH} {r : xH}, u10.category = 1 → u11.category = 1 → u12.category = 1 → u13.category = 1 → k103 o0 x1 x2 x3 x4 x5 x6 x7 x8 x9 h = some r → xEv (xTa xs) d 211 (103, [xrv o0, .int x1, .int x2, .int x3, .int x4, .int x5, .int x6, .int x7, .int x8, .int x9, u10, u11, u12, u13], [], h) (none, r)) (hk138 : ∀ {u12 : Value} {u13 : Value} {o0 : Option Nat} {x1 : Int32} {x2 : Int32} {x3 : Int32} {x4 : Int32} {x5 : Int32} {x6 : Int32} {x7 : Int32} {x8 : Int32} {x9 : Int32} {x10 : Int32} {x11 : Int32} {h : xH} {r : xH}, u12.category = 1 → u13.category = 1 → k138 o0 x1 x2 x3 x4 x5 x6 x7 x8 x9 x10 x11 h = some r → xEv (xTa xs) d 211 (138, [xrv o0, .int x1, .int x2, .int x3, .int x4, .int x5, .int x6, .int x7, .int x8, .int x9, .int x10, .int x11, u12, u13], [], h) (none, r)) {u12 : Value} {u13 : Value} {o0 : Option Nat} {x1 : Int32} {x2 : Int32} {x3 : Int32} {x4 : Int32} {x5 : Int32} {x6 : Int32} {x7 : Int32} {x8 : Int32} {x9 : Int32} {x10 : Int32} {x11 : Int32} {h : xH} {r : xH} (hu12 : u12.category = 1) (hu13 : u13.category = 1) (hf : j211_168 k103 k138 o0 x1 x2 x3 x4 x5 x6 x7 x8 x9 x10 x11 h = some r) : xEv (xTa xs) d 211 (168, [xrv o0, .int x1, .int x2, .int x3, .int x4, .int x5, .int x6, .int x7, .int x8, .int x9, .int x10, .int x11, u12, u13], [], h) (none, r) := by
  unfold j211_168 at hf
  refine ev_do i211_168 rfl ?_
  exact j211_169_ok hd hk103 hk138 hu12 hu13 hf
def l211_138 (k103 : Option Nat → Int32 → Int32 → Int32 → Int32 → Int32 → Int32 → Int32 → Int32 → Int32 → xH → Option xH) : Nat → Option Nat → Int32 → Int32 → Int32 → Int32 → Int32 → Int32 → Int32 → Int32 → Int32 → Int32 → Int32 → xH → Option xH
  | 0 => fun _ _ _ _ _ _ _ _ _ _ _ _ _ => none
  | n + 1 => fun o0 x1 x2 x3 x4 x5 x6 x7 x8 x9 x10 x11 h => (if x10 ≤ x11 then (xgI h o0 11 63).bind fun v_2 => (if v_2 ≤ x8 then j211_251 k103 o0 x1 x2 x3 x4 x5 x6 x7 x8 x9 x10 x11 0 h else (xgR h o0 11 64).bind fun a_4 => (xaI h 13 a_4 x8).bind fun v_5 => j211_251 k103 o0 x1 x2 x3 x4 x5 x6 x7 x8 x9 x10 x11 v_5 h) else (if x5 = 0 then j211_168 k103 (l211_138 k103 n) o0 x1 x2 x3 x4 x5 x6 x7 x8 x9 x10 x11 h else (if x9 = 0 then j211_168 k103 (l211_138 k103 n) o0 x1 x2 x3 x4 x5 x6 x7 x8 x9 x10 x11 h else (if x11 = (x10 - 2) then j211_169 k103 (l211_138 k103 n) o0 x1 x2 x3 x4 x5 x6 x7 x8 x9 x10 x11 1 h else j211_168 k103 (l211_138 k103 n) o0 x1 x2 x3 x4 x5 x6 x7 x8 x9 x10 x11 h))))
theorem l211_138_ok {xs : List Int32} {d : Nat} (hd : 6 ≤ d) {k103 : Option Nat → Int32 → Int32 → Int32 → Int32 → Int32 → Int32 → Int32 → Int32 → Int32 → xH → Option xH} (hk103 : ∀ {u10 : Value} {u11 : Value} {u12 : Value} {u13 : Value} {o0 : Option Nat} {x1 : Int32} {x2 : Int32} {x3 : Int32} {x4 : Int32} {x5 : Int32} {x6 : Int32} {x7 : Int32} {x8 : Int32} {x9 : Int32} {h : xH} {r : xH}, u10.category = 1 → u11.category = 1 → u12.category = 1 → u13.category = 1 → k103 o0 x1 x2 x3 x4 x5 x6 x7 x8 x9 h = some r → xEv (xTa xs) d 211 (103, [xrv o0, .int x1, .int x2, .int x3, .int x4, .int x5, .int x6, .int x7, .int x8, .int x9, u10, u11, u12, u13], [], h) (none, r)) : ∀ (n : Nat) {u12 : Value} {u13 : Value} {o0 : Option Nat} {x1 : Int32} {x2 : Int32} {x3 : Int32} {x4 : Int32} {x5 : Int32} {x6 : Int32} {x7 : Int32} {x8 : Int32} {x9 : Int32} {x10 : Int32} {x11 : Int32} {h : xH} {r : xH} (hu12 : u12.category = 1) (hu13 : u13.category = 1), l211_138 k103 n o0 x1 x2 x3 x4 x5 x6 x7 x8 x9 x10 x11 h = some r → xEv (xTa xs) d 211 (138, [xrv o0, .int x1, .int x2, .int x3, .int x4, .int x5, .int x6, .int x7, .int x8, .int x9, .int x10, .int x11, u12, u13], [], h) (none, r) := by
  intro n
  induction n with
  | zero => intros; rename_i hf; cases hf
  | succ n ih =>
    intro u12 u13 o0 x1 x2 x3 x4 x5 x6 x7 x8 x9 x10 x11 h r hu12 hu13 hf
    replace hf : ((if x10 ≤ x11 then (xgI h o0 11 63).bind fun v_2 => (if v_2 ≤ x8 then j211_251 k103 o0 x1 x2 x3 x4 x5 x6 x7 x8 x9 x10 x11 0 h else (xgR h o0 11 64).bind fun a_4 => (xaI h 13 a_4 x8).bind fun v_5 => j211_251 k103 o0 x1 x2 x3 x4 x5 x6 x7 x8 x9 x10 x11 v_5 h) else (if x5 = 0 then j211_168 k103 (l211_138 k103 n) o0 x1 x2 x3 x4 x5 x6 x7 x8 x9 x10 x11 h else (if x9 = 0 then j211_168 k103 (l211_138 k103 n) o0 x1 x2 x3 x4 x5 x6 x7 x8 x9 x10 x11 h else (if x11 = (x10 - 2) then j211_169 k103 (l211_138 k103 n) o0 x1 x2 x3 x4 x5 x6 x7 x8 x9 x10 x11 1 h else j211_168 k103 (l211_138 k103 n) o0 x1 x2 x3 x4 x5 x6 x7 x8 x9 x10 x11 h))))) = some r := hf
    refine ev_do i211_138 rfl ?_
    refine ev_do i211_140 rfl ?_
    refine ev_icmp (t := 231) i211_142 rfl (fun c_1 => ?_) (fun c_1 => ?_)
    · replace hf := x_pos (show x10 ≤ x11 from c_1) hf
      refine ev_do i211_231 rfl ?_
      refine sh_aload (i' := 0) (n := 1) i211_233 (Or.inr ⟨rfl, by decide⟩) rfl ?_
      obtain ⟨v_2, ev_2, hf⟩ := x_bind hf
      refine sh_getI i211_234 f211_377 ev_2 ?_
      refine ev_icmp (t := 250) i211_237 rfl (fun c_3 => ?_) (fun c_3 => ?_)
      · replace hf := x_pos (show v_2 ≤ x8 from c_3) hf
        refine ev_do i211_250 rfl ?_
        exact j211_251_ok hd hk103 hu12 hu13 hf
      · replace hf := x_neg (show ¬ v_2 ≤ x8 from c_3) hf
        refine sh_aload (i' := 0) (n := 1) i211_240 (Or.inr ⟨rfl, by decide⟩) rfl ?_
        obtain ⟨a_4, ea_4, hf⟩ := x_bind hf
        refine sh_getR i211_241 f211_122 ea_4 ?_
        refine ev_do i211_244 rfl ?_
        obtain ⟨v_5, ev_5, hf⟩ := x_bind hf
        refine sh_aldI (tg := 13) i211_246 (Or.inl ⟨rfl, rfl⟩) ev_5 ?_
        refine sh_goto (t := 251) i211_247 rfl ?_
        exact j211_251_ok hd hk103 hu12 hu13 hf
    · replace hf := x_neg (show ¬ x10 ≤ x11 from c_1) hf
      refine ev_do i211_145 rfl ?_
      refine ev_if (t := 168) i211_147 rfl (fun c_6 => ?_) (fun c_6 => ?_)
      · replace hf := x_pos (show x5 = 0 from c_6) hf
        exact j211_168_ok hd hk103 ih hu12 hu13 hf
      · replace hf := x_neg (show ¬ x5 = 0 from c_6) hf
        refine ev_do i211_150 rfl ?_
        refine ev_if (t := 168) i211_152 rfl (fun c_7 => ?_) (fun c_7 => ?_)
        · replace hf := x_pos (show x9 = 0 from c_7) hf
          exact j211_168_ok hd hk103 ih hu12 hu13 hf
        · replace hf := x_neg (show ¬ x9 = 0 from c_7) hf
          refine ev_do i211_155 rfl ?_
          refine ev_do i211_157 rfl ?_
          refine ev_do i211_159 rfl ?_
          refine ev_do i211_160 rfl ?_
          refine ev_icmp (t := 168) i211_161 rfl (fun c_8 => ?_) (fun c_8 => ?_)
          · replace hf := x_neg (show ¬ x11 = (x10 - 2) from c_8) hf
            exact j211_168_ok hd hk103 ih hu12 hu13 hf
          · replace hf := x_pos (show x11 = (x10 - 2) from Decidable.byContradiction (fun h9 => c_8 h9)) hf
            refine ev_do i211_164 rfl ?_
            refine sh_goto (t := 169) i211_165 rfl ?_
            exact j211_169_ok hd hk103 ih hu12 hu13 hf
def j211_133 (k103 : Option Nat → Int32 → Int32 → Int32 → Int32 → Int32 → Int32 → Int32 → Int32 → Int32 → xH → Option xH) (o0 : Option Nat) (x1 : Int32) (x2 : Int32) (x3 : Int32) (x4 : Int32) (x5 : Int32) (x6 : Int32) (x7 : Int32) (x8 : Int32) (x9 : Int32) (s0 : Int32) (h : xH) : Option xH := l211_138 k103 xFuel o0 x1 x2 x3 x4 x5 x6 x7 x8 x9 s0 0 h
theorem j211_133_ok {xs : List Int32} {d : Nat} (hd : 6 ≤ d) {k103 : Option Nat → Int32 → Int32 → Int32 → Int32 → Int32 → Int32 → Int32 → Int32 → Int32 → xH → Option xH} (hk103 : ∀ {u10 : Value} {u11 : Value} {u12 : Value} {u13 : Value} {o0 : Option Nat} {x1 : Int32} {x2 : Int32} {x3 : Int32} {x4 : Int32} {x5 : Int32} {x6 : Int32} {x7 : Int32} {x8 : Int32} {x9 : Int32} {h : xH} {r : xH}, u10.category = 1 → u11.category = 1 → u12.category = 1 → u13.category = 1 → k103 o0 x1 x2 x3 x4 x5 x6 x7 x8 x9 h = some r → xEv (xTa xs) d 211 (103, [xrv o0, .int x1, .int x2, .int x3, .int x4, .int x5, .int x6, .int x7, .int x8, .int x9, u10, u11, u12, u13], [], h) (none, r)) {u10 : Value} {u11 : Value} {u12 : Value} {u13 : Value} {o0 : Option Nat} {x1 : Int32} {x2 : Int32} {x3 : Int32} {x4 : Int32} {x5 : Int32} {x6 : Int32} {x7 : Int32} {x8 : Int32} {x9 : Int32} {s0 : Int32} {h : xH} {r : xH} (hu10 : u10.category = 1) (hu11 : u11.category = 1) (hu12 : u12.category = 1) (hu13 : u13.category = 1) (hf : j211_133 k103 o0 x1 x2 x3 x4 x5 x6 x7 x8 x9 s0 h = some r) : xEv (xTa xs) d 211 (133, [xrv o0, .int x1, .int x2, .int x3, .int x4, .int x5, .int x6, .int x7, .int x8, .int x9, u10, u11, u12, u13], [.int s0], h) (none, r) := by
  unfold j211_133 at hf
  refine sh_istore (i' := 10) (n := 2) i211_133 (Or.inl rfl) (xokst_of (Nat.le_of_ble_eq_true rfl) rfl) ?_
  refine ev_do i211_135 rfl ?_
  refine sh_istore (i' := 11) (n := 2) i211_136 (Or.inl rfl) (xokst_of (Nat.le_of_ble_eq_true rfl) rfl) ?_
  exact l211_138_ok hd hk103 xFuel hu12 hu13 hf
def j211_117 (k103 : Option Nat → Int32 → Int32 → Int32 → Int32 → Int32 → Int32 → Int32 → Int32 → Int32 → xH → Option xH) (o0 : Option Nat) (x1 : Int32) (x2 : Int32) (x3 : Int32) (x4 : Int32) (x5 : Int32) (x6 : Int32) (x7 : Int32) (x8 : Int32) (x9 : Int32) (h : xH) : Option xH := (xcv h o0 11).bind fun _ => (fn197 o0 h).bind fun h_1 => (if x9 = 0 then j211_133 k103 o0 x1 x2 x3 x4 x5 x6 x7 x8 x9 x7 h_1 else j211_133 k103 o0 x1 x2 x3 x4 x5 x6 x7 x8 x9 x6 h_1)
theorem j211_117_ok {xs : List Int32} {d : Nat} (hd : 6 ≤ d) {k103 : Option Nat → Int32 → Int32 → Int32 → Int32 → Int32 → Int32 → Int32 → Int32 → Int32 → xH → Option xH} (hk103 : ∀ {u10 : Value} {u11 : Value} {u12 : Value} {u13 : Value} {o0 : Option Nat} {x1 : Int32} {x2 : Int32} {x3 : Int32} {x4 : Int32} {x5 : Int32} {x6 : Int32} {x7 : Int32} {x8 : Int32} {x9 : Int32} {h : xH} {r : xH}, u10.category = 1 → u11.category = 1 → u12.category = 1 → u13.category = 1 → k103 o0 x1 x2 x3 x4 x5 x6 x7 x8 x9 h = some r → xEv (xTa xs) d 211 (103, [xrv o0, .int x1, .int x2, .int x3, .int x4, .int x5, .int x6, .int x7, .int x8, .int x9, u10, u11, u12, u13], [], h) (none, r)) {u10 : Value} {u11 : Value} {u12 : Value} {u13 : Value} {o0 : Option Nat} {x1 : Int32} {x2 : Int32} {x3 : Int32} {x4 : Int32} {x5 : Int32} {x6 : Int32} {x7 : Int32} {x8 : Int32} {x9 : Int32} {h : xH} {r : xH} (hu10 : u10.category = 1) (hu11 : u11.category = 1) (hu12 : u12.category = 1) (hu13 : u13.category = 1) (hf : j211_117 k103 o0 x1 x2 x3 x4 x5 x6 x7 x8 x9 h = some r) : xEv (xTa xs) d 211 (117, [xrv o0, .int x1, .int x2, .int x3, .int x4, .int x5, .int x6, .int x7, .int x8, .int x9, u10, u11, u12, u13], [], h) (none, r) := by
  unfold j211_117 at hf
  refine sh_aload (i' := 0) (n := 1) i211_117 (Or.inr ⟨rfl, by decide⟩) rfl ?_
  obtain ⟨_, eu_3, hf⟩ := x_bind hf
  obtain ⟨h_1, eh_1, hf⟩ := x_bind hf
  refine sh_inv (as := []) (z := (none, h_1)) i211_118 v211_368 (Or.inl ⟨by decide, rfl⟩) m197 rfl (Nat.le_of_ble_eq_true rfl) eu_3 (fn197_call (by omega) eh_1) ?_
  refine ev_do i211_121 rfl ?_
  refine ev_if (t := 131) i211_123 rfl (fun c_2 => ?_) (fun c_2 => ?_)
  · replace hf := x_pos (show x9 = 0 from c_2) hf
    refine ev_do i211_131 rfl ?_
    exact j211_133_ok hd hk103 hu10 hu11 hu12 hu13 hf
  · replace hf := x_neg (show ¬ x9 = 0 from c_2) hf
    refine ev_do i211_126 rfl ?_
    refine sh_goto (t := 133) i211_128 rfl ?_
    exact j211_133_ok hd hk103 hu10 hu11 hu12 hu13 hf
def l211_103  : Nat → Option Nat → Int32 → Int32 → Int32 → Int32 → Int32 → Int32 → Int32 → Int32 → Int32 → xH → Option xH
  | 0 => fun _ _ _ _ _ _ _ _ _ _ _ => none
  | n + 1 => fun o0 x1 x2 x3 x4 x5 x6 x7 x8 x9 h => (if x9 = 0 then (xgI h o0 11 63).bind fun v_2 => (if v_2 ≤ x8 then some h else j211_117 (l211_103 n) o0 x1 x2 x3 x4 x5 x6 x7 x8 x9 h) else j211_117 (l211_103 n) o0 x1 x2 x3 x4 x5 x6 x7 x8 x9 h)
theorem l211_103_ok {xs : List Int32} {d : Nat} (hd : 6 ≤ d) : ∀ (n : Nat) {u10 : Value} {u11 : Value} {u12 : Value} {u13 : Value} {o0 : Option Nat} {x1 : Int32} {x2 : Int32} {x3 : Int32} {x4 : Int32} {x5 : Int32} {x6 : Int32} {x7 : Int32} {x8 : Int32} {x9 : Int32} {h : xH} {r : xH} (hu10 : u10.category = 1) (hu11 : u11.category = 1) (hu12 : u12.category = 1) (hu13 : u13.category = 1), l211_103 n o0 x1 x2 x3 x4 x5 x6 x7 x8 x9 h = some r → xEv (xTa xs) d 211 (103, [xrv o0, .int x1, .int x2, .int x3, .int x4, .int x5, .int x6, .int x7, .int x8, .int x9, u10, u11, u12, u13], [], h) (none, r) := by
  intro n
  induction n with
  | zero => intros; rename_i hf; cases hf
  | succ n ih =>
    intro u10 u11 u12 u13 o0 x1 x2 x3 x4 x5 x6 x7 x8 x9 h r hu10 hu11 hu12 hu13 hf
    replace hf : ((if x9 = 0 then (xgI h o0 11 63).bind fun v_2 => (if v_2 ≤ x8 then some h else j211_117 (l211_103 n) o0 x1 x2 x3 x4 x5 x6 x7 x8 x9 h) else j211_117 (l211_103 n) o0 x1 x2 x3 x4 x5 x6 x7 x8 x9 h)) = some r := hf
    refine ev_do i211_103 rfl ?_
    refine ev_if (t := 117) i211_105 rfl (fun c_1 => ?_) (fun c_1 => ?_)
    · replace hf := x_neg (show ¬ x9 = 0 from c_1) hf
      exact j211_117_ok hd ih hu10 hu11 hu12 hu13 hf
    · replace hf := x_pos (show x9 = 0 from Decidable.byContradiction (fun h9 => c_1 h9)) hf
      refine ev_do i211_108 rfl ?_
      refine sh_aload (i' := 0) (n := 1) i211_110 (Or.inr ⟨rfl, by decide⟩) rfl ?_
      obtain ⟨v_2, ev_2, hf⟩ := x_bind hf
      refine sh_getI i211_111 f211_377 ev_2 ?_
      refine ev_icmp (t := 342) i211_114 rfl (fun c_3 => ?_) (fun c_3 => ?_)
      · replace hf := x_pos (show v_2 ≤ x8 from c_3) hf
        obtain rfl := Option.some.inj hf
        exact sh_vret i211_342 m211 rfl
      · replace hf := x_neg (show ¬ v_2 ≤ x8 from c_3) hf
        exact j211_117_ok hd ih hu10 hu11 hu12 hu13 hf
def j211_69  (o0 : Option Nat) (x1 : Int32) (x2 : Int32) (x3 : Int32) (x4 : Int32) (x5 : Int32) (x6 : Int32) (s0 : Int32) (h : xH) : Option xH := (xcv h o0 11).bind fun _ => (fn210 o0 x3 x6 s0 x4 h).bind fun h_1 => (xgI h_1 o0 11 48).bind fun v_2 => (xgR h_1 o0 11 65).bind fun a_3 => (xaI h_1 13 a_3 0).bind fun v_4 => (xpF h_1 o0 11 48 .int (.int (v_2 + v_4))).bind fun h_5 => l211_103 xFuel o0 x1 x2 x3 x4 x5 x6 s0 0 1 h_5
theorem j211_69_ok {xs : List Int32} {d : Nat} (hd : 6 ≤ d) {u7 : Value} {u8 : Value} {u9 : Value} {u10 : Value} {u11 : Value} {u12 : Value} {u13 : Value} {o0 : Option Nat} {x1 : Int32} {x2 : Int32} {x3 : Int32} {x4 : Int32} {x5 : Int32} {x6 : Int32} {s0 : Int32} {h : xH} {r : xH} (hu7 : u7.category = 1) (hu8 : u8.category = 1) (hu9 : u9.category = 1) (hu10 : u10.category = 1) (hu11 : u11.category = 1) (hu12 : u12.category = 1) (hu13 : u13.category = 1) (hf : j211_69 o0 x1 x2 x3 x4 x5 x6 s0 h = some r) : xEv (xTa xs) d 211 (69, [xrv o0, .int x1, .int x2, .int x3, .int x4, .int x5, .int x6, u7, u8, u9, u10, u11, u12, u13], [.int s0], h) (none, r) := by
  unfold j211_69 at hf
  refine sh_istore (i' := 7) (n := 2) i211_69 (Or.inl rfl) (xokst_of (Nat.le_of_ble_eq_true rfl) rfl) ?_
  refine sh_aload (i' := 0) (n := 1) i211_71 (Or.inr ⟨rfl, by decide⟩) rfl ?_
  refine ev_do i211_72 rfl ?_
  refine ev_do i211_73 rfl ?_
  refine ev_do i211_75 rfl ?_
  refine ev_do i211_77 rfl ?_
  obtain ⟨_, eu_6, hf⟩ := x_bind hf
  obtain ⟨h_1, eh_1, hf⟩ := x_bind hf
  refine sh_inv (as := [.int x4, .int s0, .int x6, .int x3]) (z := (none, h_1)) i211_79 v211_411 (Or.inl ⟨by decide, rfl⟩) m210 rfl (Nat.le_of_ble_eq_true rfl) eu_6 (fn210_call (by omega) eh_1) ?_
  refine sh_aload (i' := 0) (n := 1) i211_82 (Or.inr ⟨rfl, by decide⟩) rfl ?_
  refine sh_dup i211_83 (xrv_cat (o0)) ?_
  obtain ⟨v_2, ev_2, hf⟩ := x_bind hf
  refine sh_getI i211_84 f211_415 ev_2 ?_
  refine sh_aload (i' := 0) (n := 1) i211_87 (Or.inr ⟨rfl, by decide⟩) rfl ?_
  obtain ⟨a_3, ea_3, hf⟩ := x_bind hf
  refine sh_getR i211_88 f211_125 ea_3 ?_
  refine ev_do i211_91 rfl ?_
  obtain ⟨v_4, ev_4, hf⟩ := x_bind hf
  refine sh_aldI (tg := 13) i211_92 (Or.inl ⟨rfl, rfl⟩) ev_4 ?_
  refine ev_do i211_93 rfl ?_
  obtain ⟨h_5, eh_5, hf⟩ := x_bind hf
  refine sh_put i211_94 f211_415 (by decide) rfl eh_5 ?_
  refine ev_do i211_97 rfl ?_
  refine sh_istore (i' := 8) (n := 2) i211_98 (Or.inl rfl) (xokst_of (Nat.le_of_ble_eq_true rfl) rfl) ?_
  refine ev_do i211_100 rfl ?_
  refine sh_istore (i' := 9) (n := 2) i211_101 (Or.inl rfl) (xokst_of (Nat.le_of_ble_eq_true rfl) rfl) ?_
  exact l211_103_ok hd xFuel hu10 hu11 hu12 hu13 hf
def j211_42  (o0 : Option Nat) (x1 : Int32) (x2 : Int32) (x3 : Int32) (x4 : Int32) (x5 : Int32) (s0 : Int32) (h : xH) : Option xH := (if x5 = 0 then (xgR h o0 11 16).bind fun a_2 => (xaI h 13 a_2 x2).bind fun v_3 => (if v_3 ≤ 1 then j211_69 o0 x1 x2 x3 x4 x5 s0 0 h else j211_69 o0 x1 x2 x3 x4 x5 s0 4 h) else j211_69 o0 x1 x2 x3 x4 x5 s0 s0 h)
theorem j211_42_ok {xs : List Int32} {d : Nat} (hd : 6 ≤ d) {u6 : Value} {u7 : Value} {u8 : Value} {u9 : Value} {u10 : Value} {u11 : Value} {u12 : Value} {u13 : Value} {o0 : Option Nat} {x1 : Int32} {x2 : Int32} {x3 : Int32} {x4 : Int32} {x5 : Int32} {s0 : Int32} {h : xH} {r : xH} (hu6 : u6.category = 1) (hu7 : u7.category = 1) (hu8 : u8.category = 1) (hu9 : u9.category = 1) (hu10 : u10.category = 1) (hu11 : u11.category = 1) (hu12 : u12.category = 1) (hu13 : u13.category = 1) (hf : j211_42 o0 x1 x2 x3 x4 x5 s0 h = some r) : xEv (xTa xs) d 211 (42, [xrv o0, .int x1, .int x2, .int x3, .int x4, .int x5, u6, u7, u8, u9, u10, u11, u12, u13], [.int s0], h) (none, r) := by
  unfold j211_42 at hf
  refine sh_istore (i' := 6) (n := 2) i211_42 (Or.inl rfl) (xokst_of (Nat.le_of_ble_eq_true rfl) rfl) ?_
  refine ev_do i211_44 rfl ?_
  refine ev_if (t := 54) i211_46 rfl (fun c_1 => ?_) (fun c_1 => ?_)
  · replace hf := x_pos (show x5 = 0 from c_1) hf
    refine sh_aload (i' := 0) (n := 1) i211_54 (Or.inr ⟨rfl, by decide⟩) rfl ?_
    obtain ⟨a_2, ea_2, hf⟩ := x_bind hf
    refine sh_getR i211_55 f211_53 ea_2 ?_
    refine ev_do i211_58 rfl ?_
    obtain ⟨v_3, ev_3, hf⟩ := x_bind hf
    refine sh_aldI (tg := 13) i211_59 (Or.inl ⟨rfl, rfl⟩) ev_3 ?_
    refine ev_do i211_60 rfl ?_
    refine ev_icmp (t := 68) i211_61 rfl (fun c_4 => ?_) (fun c_4 => ?_)
    · replace hf := x_pos (show v_3 ≤ 1 from c_4) hf
      refine ev_do i211_68 rfl ?_
      exact j211_69_ok hd hu7 hu8 hu9 hu10 hu11 hu12 hu13 hf
    · replace hf := x_neg (show ¬ v_3 ≤ 1 from c_4) hf
      refine ev_do i211_64 rfl ?_
      refine sh_goto (t := 69) i211_65 rfl ?_
      exact j211_69_ok hd hu7 hu8 hu9 hu10 hu11 hu12 hu13 hf
  · replace hf := x_neg (show ¬ x5 = 0 from c_1) hf
    refine ev_do i211_49 rfl ?_
    refine sh_goto (t := 69) i211_51 rfl ?_
    exact j211_69_ok hd hu7 hu8 hu9 hu10 hu11 hu12 hu13 hf
def j211_21  (o0 : Option Nat) (x1 : Int32) (x2 : Int32) (x3 : Int32) (x4 : Int32) (s0 : Int32) (h : xH) : Option xH := (if s0 = 0 then j211_42 o0 x1 x2 x3 x4 s0 0 h else (xgR h o0 11 17).bind fun a_2 => (xaI h 13 a_2 x2).bind fun v_3 => j211_42 o0 x1 x2 x3 x4 s0 ((2 * v_3) + 2) h)
theorem j211_21_ok {xs : List Int32} {d : Nat} (hd : 6 ≤ d) {u5 : Value} {u6 : Value} {u7 : Value} {u8 : Value} {u9 : Value} {u10 : Value} {u11 : Value} {u12 : Value} {u13 : Value} {o0 : Option Nat} {x1 : Int32} {x2 : Int32} {x3 : Int32} {x4 : Int32} {s0 : Int32} {h : xH} {r : xH} (hu5 : u5.category = 1) (hu6 : u6.category = 1) (hu7 : u7.category = 1) (hu8 : u8.category = 1) (hu9 : u9.category = 1) (hu10 : u10.category = 1) (hu11 : u11.category = 1) (hu12 : u12.category = 1) (hu13 : u13.category = 1) (hf : j211_21 o0 x1 x2 x3 x4 s0 h = some r) : xEv (xTa xs) d 211 (21, [xrv o0, .int x1, .int x2, .int x3, .int x4, u5, u6, u7, u8, u9, u10, u11, u12, u13], [.int s0], h) (none, r) := by
  unfold j211_21 at hf
  refine sh_istore (i' := 5) (n := 2) i211_21 (Or.inl rfl) (xokst_of (Nat.le_of_ble_eq_true rfl) rfl) ?_
  refine ev_do i211_23 rfl ?_
  refine ev_if (t := 41) i211_25 rfl (fun c_1 => ?_) (fun c_1 => ?_)
  · replace hf := x_pos (show s0 = 0 from c_1) hf
    refine ev_do i211_41 rfl ?_
    exact j211_42_ok hd hu6 hu7 hu8 hu9 hu10 hu11 hu12 hu13 hf
  · replace hf := x_neg (show ¬ s0 = 0 from c_1) hf
    refine ev_do i211_28 rfl ?_
    refine sh_aload (i' := 0) (n := 1) i211_29 (Or.inr ⟨rfl, by decide⟩) rfl ?_
    obtain ⟨a_2, ea_2, hf⟩ := x_bind hf
    refine sh_getR i211_30 f211_56 ea_2 ?_
    refine ev_do i211_33 rfl ?_
    obtain ⟨v_3, ev_3, hf⟩ := x_bind hf
    refine sh_aldI (tg := 13) i211_34 (Or.inl ⟨rfl, rfl⟩) ev_3 ?_
    refine ev_do i211_35 rfl ?_
    refine ev_do i211_36 rfl ?_
    refine ev_do i211_37 rfl ?_
    refine sh_goto (t := 42) i211_38 rfl ?_
    exact j211_42_ok hd hu6 hu7 hu8 hu9 hu10 hu11 hu12 hu13 hf
def fn211 (o0 : Option Nat) (x1 : Int32) (x2 : Int32) (x3 : Int32) (x4 : Int32) (h : xH) : Option xH := (xcv h o0 11).bind fun _ => (fn207 o0 x1 x2 h).bind fun h_1 => (xgR h_1 o0 11 16).bind fun a_2 => (xaI h_1 13 a_2 x2).bind fun v_3 => (if v_3 = 1 then j211_21 o0 x1 x2 x3 x4 1 h_1 else j211_21 o0 x1 x2 x3 x4 0 h_1)
theorem fn211_call {xs : List Int32} {d : Nat} (hd : 7 ≤ d) {o0 : Option Nat} {x1 : Int32} {x2 : Int32} {x3 : Int32} {x4 : Int32} {h : xH} {r : xH} (hf : fn211 o0 x1 x2 x3 x4 h = some r) : xCall (xTa xs) d 211 [xrv o0, .int x1, .int x2, .int x3, .int x4] h (none, r) := by
  obtain ⟨d, rfl⟩ : ∃ d2, d = d2 + 1 := ⟨d - 1, by omega⟩
  replace hd : 6 ≤ d := by omega
  refine call_of2 (fl := [xrv o0, .int x1, .int x2, .int x3, .int x4]) (Ls := [xrv o0, .int x1, .int x2, .int x3, .int x4, .float 0, .float 0, .float 0, .float 0, .float 0, .float 0, .float 0, .float 0, .float 0]) m211 (by simp [xfl, xrv_cat, xc_i, xc_j, xc_a, xc_f]) (Nat.le_of_ble_eq_true rfl) rfl ?_
  unfold fn211 at hf
  refine sh_aload (i' := 0) (n := 1) i211_0 (Or.inr ⟨rfl, by decide⟩) rfl ?_
  refine ev_do i211_1 rfl ?_
  refine ev_do i211_2 rfl ?_
  obtain ⟨_, eu_5, hf⟩ := x_bind hf
  obtain ⟨h_1, eh_1, hf⟩ := x_bind hf
  refine sh_inv (as := [.int x2, .int x1]) (z := (none, h_1)) i211_3 v211_408 (Or.inl ⟨by decide, rfl⟩) m207 rfl (Nat.le_of_ble_eq_true rfl) eu_5 (fn207_call (by omega) eh_1) ?_
  refine sh_aload (i' := 0) (n := 1) i211_6 (Or.inr ⟨rfl, by decide⟩) rfl ?_
  obtain ⟨a_2, ea_2, hf⟩ := x_bind hf
  refine sh_getR i211_7 f211_53 ea_2 ?_
  refine ev_do i211_10 rfl ?_
  obtain ⟨v_3, ev_3, hf⟩ := x_bind hf
  refine sh_aldI (tg := 13) i211_11 (Or.inl ⟨rfl, rfl⟩) ev_3 ?_
  refine ev_do i211_12 rfl ?_
  refine ev_icmp (t := 20) i211_13 rfl (fun c_4 => ?_) (fun c_4 => ?_)
  · replace hf := x_neg (show ¬ v_3 = 1 from c_4) hf
    refine ev_do i211_20 rfl ?_
    exact j211_21_ok hd rfl rfl rfl rfl rfl rfl rfl rfl rfl hf
  · replace hf := x_pos (show v_3 = 1 from Decidable.byContradiction (fun h9 => c_4 h9)) hf
    refine ev_do i211_16 rfl ?_
    refine sh_goto (t := 21) i211_17 rfl ?_
    exact j211_21_ok hd rfl rfl rfl rfl rfl rfl rfl rfl rfl hf
end
