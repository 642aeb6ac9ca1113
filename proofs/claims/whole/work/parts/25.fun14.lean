section
def j181_238  (o0 : Option Nat) (x1 : Int32) (x2 : Int32) (x3 : Int32) (x4 : Int32) (h : xH) : Option xH := some h
theorem j181_238_ok {xs : List Int32} {d : Nat} (hd : 8 ≤ d) {u5 : Value} {o0 : Option Nat} {x1 : Int32} {x2 : Int32} {x3 : Int32} {x4 : Int32} {h : xH} {r : xH} (hu5 : u5.category = 1) (hf : j181_238 o0 x1 x2 x3 x4 h = some r) : xEv (xTa xs) d 181 (238, [xrv o0, .int x1, .int x2, .int x3, .int x4, u5], [], h) (none, r) := by
  unfold j181_238 at hf
  obtain rfl := Option.some.inj hf
  exact sh_vret i181_238 m181 rfl
def j181_209 (k175 : Option Nat → Int32 → Int32 → Int32 → Int32 → Int32 → xH → Option xH) (o0 : Option Nat) (x1 : Int32) (x2 : Int32) (x3 : Int32) (x4 : Int32) (x5 : Int32) (h : xH) : Option xH := k175 o0 x1 x2 x3 x4 (x5 + 1) h
theorem j181_209_ok {xs : List Int32} {d : Nat} (hd : 8 ≤ d) {k175 : Option Nat → Int32 → Int32 → Int32 → Int32 → Int32 → xH → Option xH} (hk175 : ∀ {o0 : Option Nat} {x1 : Int32} {x2 : Int32} {x3 : Int32} {x4 : Int32} {x5 : Int32} {h : xH} {r : xH}, k175 o0 x1 x2 x3 x4 x5 h = some r → xEv (xTa xs) d 181 (175, [xrv o0, .int x1, .int x2, .int x3, .int x4, .int x5], [], h) (none, r)) {o0 : Option Nat} {x1 : Int32} {x2 : Int32} {x3 : Int32} {x4 : Int32} {x5 : Int32} {h : xH} {r : xH} (hf : j181_209 k175 o0 x1 x2 x3 x4 x5 h = some r) : xEv (xTa xs) d 181 (209, [xrv o0, .int x1, .int x2, .int x3, .int x4, .int x5], [], h) (none, r) := by
  unfold j181_209 at hf
  refine sh_inc (i' := 5) i181_209 rfl (xokst_of (Nat.le_of_ble_eq_true rfl) rfl) rfl ?_
  refine sh_goto (t := 175) i181_212 rfl ?_
  exact hk175 hf
def l181_175  : Nat → Option Nat → Int32 → Int32 → Int32 → Int32 → Int32 → xH → Option xH
  | 0 => fun _ _ _ _ _ _ _ => none
  | n + 1 => fun o0 x1 x2 x3 x4 x5 h => (xgR h o0 11 14).bind fun a_1 => (xaI h 13 a_1 40).bind fun v_2 => (if v_2 ≤ x5 then (xcv h o0 11).bind fun _ => (fn173 o0 7 0 x1 h).bind fun h_4 => j181_238 o0 x1 x2 x3 x4 h_4 else (xgR h o0 11 16).bind fun a_6 => (xaI h 13 a_6 (960 + x5)).bind fun v_7 => (if v_7 = 7 then (xcv h o0 11).bind fun _ => (fn166 o0 5 x1 h).bind fun h_9 => j181_209 (l181_175 n) o0 x1 x2 x3 x4 x5 h_9 else j181_209 (l181_175 n) o0 x1 x2 x3 x4 x5 h))
theorem l181_175_ok {xs : List Int32} {d : Nat} (hd : 8 ≤ d) : ∀ (n : Nat) {o0 : Option Nat} {x1 : Int32} {x2 : Int32} {x3 : Int32} {x4 : Int32} {x5 : Int32} {h : xH} {r : xH}, l181_175 n o0 x1 x2 x3 x4 x5 h = some r → xEv (xTa xs) d 181 (175, [xrv o0, .int x1, .int x2, .int x3, .int x4, .int x5], [], h) (none, r) := by
  intro n
  induction n with
  | zero => intros; rename_i hf; cases hf
  | succ n ih =>
    intro o0 x1 x2 x3 x4 x5 h r hf
    replace hf : ((xgR h o0 11 14).bind fun a_1 => (xaI h 13 a_1 40).bind fun v_2 => (if v_2 ≤ x5 then (xcv h o0 11).bind fun _ => (fn173 o0 7 0 x1 h).bind fun h_4 => j181_238 o0 x1 x2 x3 x4 h_4 else (xgR h o0 11 16).bind fun a_6 => (xaI h 13 a_6 (960 + x5)).bind fun v_7 => (if v_7 = 7 then (xcv h o0 11).bind fun _ => (fn166 o0 5 x1 h).bind fun h_9 => j181_209 (l181_175 n) o0 x1 x2 x3 x4 x5 h_9 else j181_209 (l181_175 n) o0 x1 x2 x3 x4 x5 h))) = some r := hf
    refine ev_do i181_175 rfl ?_
    refine sh_aload (i' := 0) (n := 1) i181_177 (Or.inr ⟨rfl, by decide⟩) rfl ?_
    obtain ⟨a_1, ea_1, hf⟩ := x_bind hf
    refine sh_getR i181_178 f181_47 ea_1 ?_
    refine ev_do i181_181 rfl ?_
    obtain ⟨v_2, ev_2, hf⟩ := x_bind hf
    refine sh_aldI (tg := 13) i181_183 (Or.inl ⟨rfl, rfl⟩) ev_2 ?_
    refine ev_icmp (t := 215) i181_184 rfl (fun c_3 => ?_) (fun c_3 => ?_)
    · replace hf := x_pos (show v_2 ≤ x5 from c_3) hf
      refine sh_aload (i' := 0) (n := 1) i181_215 (Or.inr ⟨rfl, by decide⟩) rfl ?_
      refine ev_do i181_216 rfl ?_
      refine ev_do i181_218 rfl ?_
      refine ev_do i181_219 rfl ?_
      obtain ⟨_, eu_5, hf⟩ := x_bind hf
      obtain ⟨h_4, eh_4, hf⟩ := x_bind hf
      refine sh_inv (as := [.int x1, .int 0, .int 7]) (z := (none, h_4)) i181_220 v181_301 (Or.inl ⟨by decide, rfl⟩) m173 rfl (Nat.le_of_ble_eq_true rfl) eu_5 (fn173_call (by omega) eh_4) ?_
      refine sh_goto (t := 238) i181_223 rfl ?_
      exact j181_238_ok hd rfl hf
    · replace hf := x_neg (show ¬ v_2 ≤ x5 from c_3) hf
      refine sh_aload (i' := 0) (n := 1) i181_187 (Or.inr ⟨rfl, by decide⟩) rfl ?_
      obtain ⟨a_6, ea_6, hf⟩ := x_bind hf
      refine sh_getR i181_188 f181_53 ea_6 ?_
      refine ev_do i181_191 rfl ?_
      refine ev_do i181_194 rfl ?_
      refine ev_do i181_196 rfl ?_
      obtain ⟨v_7, ev_7, hf⟩ := x_bind hf
      refine sh_aldI (tg := 13) i181_197 (Or.inl ⟨rfl, rfl⟩) ev_7 ?_
      refine ev_do i181_198 rfl ?_
      refine ev_icmp (t := 209) i181_200 rfl (fun c_8 => ?_) (fun c_8 => ?_)
      · replace hf := x_neg (show ¬ v_7 = 7 from c_8) hf
        exact j181_209_ok hd ih hf
      · replace hf := x_pos (show v_7 = 7 from Decidable.byContradiction (fun h9 => c_8 h9)) hf
        refine sh_aload (i' := 0) (n := 1) i181_203 (Or.inr ⟨rfl, by decide⟩) rfl ?_
        refine ev_do i181_204 rfl ?_
        refine ev_do i181_205 rfl ?_
        obtain ⟨_, eu_10, hf⟩ := x_bind hf
        obtain ⟨h_9, eh_9, hf⟩ := x_bind hf
        refine sh_inv (as := [.int x1, .int 5]) (z := (none, h_9)) i181_206 v181_267 (Or.inl ⟨by decide, rfl⟩) m166 rfl (Nat.le_of_ble_eq_true rfl) eu_10 (fn166_call (by omega) eh_9) ?_
        exact j181_209_ok hd ih hf
def j181_146  (o0 : Option Nat) (x1 : Int32) (x2 : Int32) (x3 : Int32) (x4 : Int32) (h : xH) : Option xH := (xgR h o0 11 14).bind fun a_1 => (xaI h 13 a_1 40).bind fun v_2 => (if v_2 = 24 then (xcv h o0 11).bind fun _ => (fn166 o0 4 x1 h).bind fun h_4 => j181_238 o0 x1 x2 x3 x4 h_4 else (if x4 = 0 then (xcv h o0 11).bind fun _ => (fn173 o0 0 0 x1 h).bind fun h_7 => (xcv h_7 o0 11).bind fun _ => (fn175 o0 x1 h_7).bind fun h_8 => j181_238 o0 x1 x2 x3 x4 h_8 else l181_175 xFuel o0 x1 x2 x3 x4 0 h))
theorem j181_146_ok {xs : List Int32} {d : Nat} (hd : 8 ≤ d) {u5 : Value} {o0 : Option Nat} {x1 : Int32} {x2 : Int32} {x3 : Int32} {x4 : Int32} {h : xH} {r : xH} (hu5 : u5.category = 1) (hf : j181_146 o0 x1 x2 x3 x4 h = some r) : xEv (xTa xs) d 181 (146, [xrv o0, .int x1, .int x2, .int x3, .int x4, u5], [], h) (none, r) := by
  unfold j181_146 at hf
  refine sh_aload (i' := 0) (n := 1) i181_146 (Or.inr ⟨rfl, by decide⟩) rfl ?_
  obtain ⟨a_1, ea_1, hf⟩ := x_bind hf
  refine sh_getR i181_147 f181_47 ea_1 ?_
  refine ev_do i181_150 rfl ?_
  obtain ⟨v_2, ev_2, hf⟩ := x_bind hf
  refine sh_aldI (tg := 13) i181_152 (Or.inl ⟨rfl, rfl⟩) ev_2 ?_
  refine ev_do i181_153 rfl ?_
  refine ev_icmp (t := 167) i181_155 rfl (fun c_3 => ?_) (fun c_3 => ?_)
  · replace hf := x_neg (show ¬ v_2 = 24 from c_3) hf
    refine ev_do i181_167 rfl ?_
    refine ev_if (t := 226) i181_169 rfl (fun c_6 => ?_) (fun c_6 => ?_)
    · replace hf := x_pos (show x4 = 0 from c_6) hf
      refine sh_aload (i' := 0) (n := 1) i181_226 (Or.inr ⟨rfl, by decide⟩) rfl ?_
      refine ev_do i181_227 rfl ?_
      refine ev_do i181_228 rfl ?_
      refine ev_do i181_229 rfl ?_
      obtain ⟨_, eu_10, hf⟩ := x_bind hf
      obtain ⟨h_7, eh_7, hf⟩ := x_bind hf
      refine sh_inv (as := [.int x1, .int 0, .int 0]) (z := (none, h_7)) i181_230 v181_301 (Or.inl ⟨by decide, rfl⟩) m173 rfl (Nat.le_of_ble_eq_true rfl) eu_10 (fn173_call (by omega) eh_7) ?_
      refine sh_aload (i' := 0) (n := 1) i181_233 (Or.inr ⟨rfl, by decide⟩) rfl ?_
      refine ev_do i181_234 rfl ?_
      obtain ⟨_, eu_9, hf⟩ := x_bind hf
      obtain ⟨h_8, eh_8, hf⟩ := x_bind hf
      refine sh_inv (as := [.int x1]) (z := (none, h_8)) i181_235 v181_305 (Or.inl ⟨by decide, rfl⟩) m175 rfl (Nat.le_of_ble_eq_true rfl) eu_9 (fn175_call (by omega) eh_8) ?_
      exact j181_238_ok hd hu5 hf
    · replace hf := x_neg (show ¬ x4 = 0 from c_6) hf
      refine ev_do i181_172 rfl ?_
      refine sh_istore (i' := 5) (n := 2) i181_173 (Or.inl rfl) (xokst_of (Nat.le_of_ble_eq_true rfl) rfl) ?_
      exact l181_175_ok hd xFuel hf
  · replace hf := x_pos (show v_2 = 24 from Decidable.byContradiction (fun h9 => c_3 h9)) hf
    refine sh_aload (i' := 0) (n := 1) i181_158 (Or.inr ⟨rfl, by decide⟩) rfl ?_
    refine ev_do i181_159 rfl ?_
    refine ev_do i181_160 rfl ?_
    obtain ⟨_, eu_5, hf⟩ := x_bind hf
    obtain ⟨h_4, eh_4, hf⟩ := x_bind hf
    refine sh_inv (as := [.int x1, .int 4]) (z := (none, h_4)) i181_161 v181_267 (Or.inl ⟨by decide, rfl⟩) m166 rfl (Nat.le_of_ble_eq_true rfl) eu_5 (fn166_call (by omega) eh_4) ?_
    refine sh_goto (t := 238) i181_164 rfl ?_
    exact j181_238_ok hd hu5 hf
def j181_137  (o0 : Option Nat) (x1 : Int32) (x2 : Int32) (x3 : Int32) (x4 : Int32) (h : xH) : Option xH := (xcv h o0 11).bind fun _ => (fn166 o0 2 x1 h).bind fun h_1 => j181_238 o0 x1 x2 x3 x4 h_1
theorem j181_137_ok {xs : List Int32} {d : Nat} (hd : 8 ≤ d) {u5 : Value} {o0 : Option Nat} {x1 : Int32} {x2 : Int32} {x3 : Int32} {x4 : Int32} {h : xH} {r : xH} (hu5 : u5.category = 1) (hf : j181_137 o0 x1 x2 x3 x4 h = some r) : xEv (xTa xs) d 181 (137, [xrv o0, .int x1, .int x2, .int x3, .int x4, u5], [], h) (none, r) := by
  unfold j181_137 at hf
  refine sh_aload (i' := 0) (n := 1) i181_137 (Or.inr ⟨rfl, by decide⟩) rfl ?_
  refine ev_do i181_138 rfl ?_
  refine ev_do i181_139 rfl ?_
  obtain ⟨_, eu_2, hf⟩ := x_bind hf
  obtain ⟨h_1, eh_1, hf⟩ := x_bind hf
  refine sh_inv (as := [.int x1, .int 2]) (z := (none, h_1)) i181_140 v181_267 (Or.inl ⟨by decide, rfl⟩) m166 rfl (Nat.le_of_ble_eq_true rfl) eu_2 (fn166_call (by omega) eh_1) ?_
  refine sh_goto (t := 238) i181_143 rfl ?_
  exact j181_238_ok hd hu5 hf
def j181_115  (o0 : Option Nat) (x1 : Int32) (x2 : Int32) (x3 : Int32) (s0 : Int32) (h : xH) : Option xH := (xgI h o0 11 35).bind fun v_1 => (if v_1 = 0 then (if s0 = 0 then (xcv h o0 11).bind fun _ => (fn172 o0 x1 h).bind fun r_4 => (if r_4.1 = 0 then j181_146 o0 x1 x2 x3 s0 r_4.2 else j181_137 o0 x1 x2 x3 s0 r_4.2) else j181_146 o0 x1 x2 x3 s0 h) else j181_137 o0 x1 x2 x3 s0 h)
theorem j181_115_ok {xs : List Int32} {d : Nat} (hd : 8 ≤ d) {u4 : Value} {u5 : Value} {o0 : Option Nat} {x1 : Int32} {x2 : Int32} {x3 : Int32} {s0 : Int32} {h : xH} {r : xH} (hu4 : u4.category = 1) (hu5 : u5.category = 1) (hf : j181_115 o0 x1 x2 x3 s0 h = some r) : xEv (xTa xs) d 181 (115, [xrv o0, .int x1, .int x2, .int x3, u4, u5], [.int s0], h) (none, r) := by
  unfold j181_115 at hf
  refine sh_istore (i' := 4) (n := 2) i181_115 (Or.inl rfl) (xokst_of (Nat.le_of_ble_eq_true rfl) rfl) ?_
  refine sh_aload (i' := 0) (n := 1) i181_117 (Or.inr ⟨rfl, by decide⟩) rfl ?_
  obtain ⟨v_1, ev_1, hf⟩ := x_bind hf
  refine sh_getI i181_118 f181_278 ev_1 ?_
  refine ev_if (t := 137) i181_121 rfl (fun c_2 => ?_) (fun c_2 => ?_)
  · replace hf := x_neg (show ¬ v_1 = 0 from c_2) hf
    exact j181_137_ok hd hu5 hf
  · replace hf := x_pos (show v_1 = 0 from Decidable.byContradiction (fun h9 => c_2 h9)) hf
    refine ev_do i181_124 rfl ?_
    refine ev_if (t := 146) i181_126 rfl (fun c_3 => ?_) (fun c_3 => ?_)
    · replace hf := x_neg (show ¬ s0 = 0 from c_3) hf
      exact j181_146_ok hd hu5 hf
    · replace hf := x_pos (show s0 = 0 from Decidable.byContradiction (fun h9 => c_3 h9)) hf
      refine sh_aload (i' := 0) (n := 1) i181_129 (Or.inr ⟨rfl, by decide⟩) rfl ?_
      refine ev_do i181_130 rfl ?_
      obtain ⟨_, eu_6, hf⟩ := x_bind hf
      obtain ⟨r_4, er_4, hf⟩ := x_bind hf
      refine sh_inv (as := [.int x1]) (z := (some (.int r_4.1), r_4.2)) i181_131 v181_264 (Or.inl ⟨by decide, rfl⟩) m172 rfl (Nat.le_of_ble_eq_true rfl) eu_6 (fn172_call (by omega) er_4) ?_
      refine ev_if (t := 146) i181_134 rfl (fun c_5 => ?_) (fun c_5 => ?_)
      · replace hf := x_pos (show r_4.1 = 0 from c_5) hf
        exact j181_146_ok hd hu5 hf
      · replace hf := x_neg (show ¬ r_4.1 = 0 from c_5) hf
        exact j181_137_ok hd hu5 hf
def j181_114  (o0 : Option Nat) (x1 : Int32) (x2 : Int32) (x3 : Int32) (h : xH) : Option xH := j181_115 o0 x1 x2 x3 0 h
theorem j181_114_ok {xs : List Int32} {d : Nat} (hd : 8 ≤ d) {u4 : Value} {u5 : Value} {o0 : Option Nat} {x1 : Int32} {x2 : Int32} {x3 : Int32} {h : xH} {r : xH} (hu4 : u4.category = 1) (hu5 : u5.category = 1) (hf : j181_114 o0 x1 x2 x3 h = some r) : xEv (xTa xs) d 181 (114, [xrv o0, .int x1, .int x2, .int x3, u4, u5], [], h) (none, r) := by
  unfold j181_114 at hf
  refine ev_do i181_114 rfl ?_
  exact j181_115_ok hd hu4 hu5 hf
def j181_65  (o0 : Option Nat) (x1 : Int32) (x2 : Int32) (x3 : Int32) (x4 : Int32) (h : xH) : Option xH := some h
theorem j181_65_ok {xs : List Int32} {d : Nat} (hd : 8 ≤ d) {u5 : Value} {o0 : Option Nat} {x1 : Int32} {x2 : Int32} {x3 : Int32} {x4 : Int32} {h : xH} {r : xH} (hu5 : u5.category = 1) (hf : j181_65 o0 x1 x2 x3 x4 h = some r) : xEv (xTa xs) d 181 (65, [xrv o0, .int x1, .int x2, .int x3, .int x4, u5], [], h) (none, r) := by
  unfold j181_65 at hf
  obtain rfl := Option.some.inj hf
  exact sh_vret i181_65 m181 rfl
def j181_51  (o0 : Option Nat) (x1 : Int32) (x2 : Int32) (x3 : Int32) (x4 : Int32) (h : xH) : Option xH := (xcv h o0 11).bind fun _ => (fn166 o0 2 x1 h).bind fun h_1 => j181_65 o0 x1 x2 x3 x4 h_1
theorem j181_51_ok {xs : List Int32} {d : Nat} (hd : 8 ≤ d) {u5 : Value} {o0 : Option Nat} {x1 : Int32} {x2 : Int32} {x3 : Int32} {x4 : Int32} {h : xH} {r : xH} (hu5 : u5.category = 1) (hf : j181_51 o0 x1 x2 x3 x4 h = some r) : xEv (xTa xs) d 181 (51, [xrv o0, .int x1, .int x2, .int x3, .int x4, u5], [], h) (none, r) := by
  unfold j181_51 at hf
  refine sh_aload (i' := 0) (n := 1) i181_51 (Or.inr ⟨rfl, by decide⟩) rfl ?_
  refine ev_do i181_52 rfl ?_
  refine ev_do i181_53 rfl ?_
  obtain ⟨_, eu_2, hf⟩ := x_bind hf
  obtain ⟨h_1, eh_1, hf⟩ := x_bind hf
  refine sh_inv (as := [.int x1, .int 2]) (z := (none, h_1)) i181_54 v181_267 (Or.inl ⟨by decide, rfl⟩) m166 rfl (Nat.le_of_ble_eq_true rfl) eu_2 (fn166_call (by omega) eh_1) ?_
  refine sh_goto (t := 65) i181_57 rfl ?_
  exact j181_65_ok hd hu5 hf
def j181_22  (o0 : Option Nat) (x1 : Int32) (x2 : Int32) (s0 : Int32) (h : xH) : Option xH := (if s0 = 0 then (xgR h o0 11 16).bind fun a_2 => (xcv h o0 11).bind fun _ => (fn174 o0 h).bind fun r_3 => (xaI r_3.2 13 a_2 r_3.1).bind fun v_4 => (if v_4 = 5 then j181_51 o0 x1 x2 s0 v_4 r_3.2 else (if v_4 = 6 then j181_51 o0 x1 x2 s0 v_4 r_3.2 else (xcv r_3.2 o0 11).bind fun _ => (fn175 o0 x1 r_3.2).bind fun h_7 => j181_65 o0 x1 x2 s0 v_4 h_7)) else (xcv h o0 11).bind fun _ => (fn168 o0 x1 8892760333877406068 8 h).bind fun r_10 => (if r_10.1 = 0 then j181_114 o0 x1 x2 s0 r_10.2 else (xcv r_10.2 o0 11).bind fun _ => (fn168 o0 (x1 + 8) 125 1 r_10.2).bind fun r_12 => (if r_12.1 = 0 then j181_114 o0 x1 x2 s0 r_12.2 else (xgI r_12.2 o0 11 34).bind fun v_14 => (if v_14 = 0 then j181_114 o0 x1 x2 s0 r_12.2 else (xcv r_12.2 o0 11).bind fun _ => (fn182 o0 x1 x2 r_12.2).bind fun r_16 => (if r_16.1 = 0 then j181_114 o0 x1 x2 s0 r_16.2 else j181_115 o0 x1 x2 s0 1 r_16.2)))))
theorem j181_22_ok {xs : List Int32} {d : Nat} (hd : 8 ≤ d) {u3 : Value} {u4 : Value} {u5 : Value} {o0 : Option Nat} {x1 : Int32} {x2 : Int32} {s0 : Int32} {h : xH} {r : xH} (hu3 : u3.category = 1) (hu4 : u4.category = 1) (hu5 : u5.category = 1) (hf : j181_22 o0 x1 x2 s0 h = some r) : xEv (xTa xs) d 181 (22, [xrv o0, .int x1, .int x2, u3, u4, u5], [.int s0], h) (none, r) := by
  unfold j181_22 at hf
  refine sh_istore (i' := 3) (n := 1) i181_22 (Or.inr ⟨rfl, by decide⟩) (xokst_of (Nat.le_of_ble_eq_true rfl) rfl) ?_
  refine ev_do i181_23 rfl ?_
  refine ev_if (t := 66) i181_24 rfl (fun c_1 => ?_) (fun c_1 => ?_)
  · replace hf := x_neg (show ¬ s0 = 0 from c_1) hf
    refine sh_aload (i' := 0) (n := 1) i181_66 (Or.inr ⟨rfl, by decide⟩) rfl ?_
    refine ev_do i181_67 rfl ?_
    refine ev_do i181_68 (show xpush? 3 ((xtJ (xTa xs) 181 308).map .long) 68 _ _ _ = _ from by rw [w181_308]; rfl) ?_
    refine ev_do i181_71 rfl ?_
    obtain ⟨_, eu_20, hf⟩ := x_bind hf
    obtain ⟨r_10, er_10, hf⟩ := x_bind hf
    refine sh_inv (as := [.int 8, .long 8892760333877406068, .int x1]) (z := (some (.int r_10.1), r_10.2)) i181_73 v181_234 (Or.inl ⟨by decide, rfl⟩) m168 rfl (Nat.le_of_ble_eq_true rfl) eu_20 (fn168_call (by omega) er_10) ?_
    refine ev_if (t := 114) i181_76 rfl (fun c_11 => ?_) (fun c_11 => ?_)
    · replace hf := x_pos (show r_10.1 = 0 from c_11) hf
      exact j181_114_ok hd hu4 hu5 hf
    · replace hf := x_neg (show ¬ r_10.1 = 0 from c_11) hf
      refine sh_aload (i' := 0) (n := 1) i181_79 (Or.inr ⟨rfl, by decide⟩) rfl ?_
      refine ev_do i181_80 rfl ?_
      refine ev_do i181_81 rfl ?_
      refine ev_do i181_83 rfl ?_
      refine ev_do i181_84 (show xpush? 3 ((xtJ (xTa xs) 181 310).map .long) 84 _ _ _ = _ from by rw [w181_310]; rfl) ?_
      refine ev_do i181_87 rfl ?_
      obtain ⟨_, eu_19, hf⟩ := x_bind hf
      obtain ⟨r_12, er_12, hf⟩ := x_bind hf
      refine sh_inv (as := [.int 1, .long 125, .int (x1 + 8)]) (z := (some (.int r_12.1), r_12.2)) i181_88 v181_234 (Or.inl ⟨by decide, rfl⟩) m168 rfl (Nat.le_of_ble_eq_true rfl) eu_19 (fn168_call (by omega) er_12) ?_
      refine ev_if (t := 114) i181_91 rfl (fun c_13 => ?_) (fun c_13 => ?_)
      · replace hf := x_pos (show r_12.1 = 0 from c_13) hf
        exact j181_114_ok hd hu4 hu5 hf
      · replace hf := x_neg (show ¬ r_12.1 = 0 from c_13) hf
        refine sh_aload (i' := 0) (n := 1) i181_94 (Or.inr ⟨rfl, by decide⟩) rfl ?_
        obtain ⟨v_14, ev_14, hf⟩ := x_bind hf
        refine sh_getI i181_95 f181_312 ev_14 ?_
        refine ev_if (t := 114) i181_98 rfl (fun c_15 => ?_) (fun c_15 => ?_)
        · replace hf := x_pos (show v_14 = 0 from c_15) hf
          exact j181_114_ok hd hu4 hu5 hf
        · replace hf := x_neg (show ¬ v_14 = 0 from c_15) hf
          refine sh_aload (i' := 0) (n := 1) i181_101 (Or.inr ⟨rfl, by decide⟩) rfl ?_
          refine ev_do i181_102 rfl ?_
          refine ev_do i181_103 rfl ?_
          obtain ⟨_, eu_18, hf⟩ := x_bind hf
          obtain ⟨r_16, er_16, hf⟩ := x_bind hf
          refine sh_inv (as := [.int x2, .int x1]) (z := (some (.int r_16.1), r_16.2)) i181_104 v181_315 (Or.inl ⟨by decide, rfl⟩) m182 rfl (Nat.le_of_ble_eq_true rfl) eu_18 (fn182_call (by omega) er_16) ?_
          refine ev_if (t := 114) i181_107 rfl (fun c_17 => ?_) (fun c_17 => ?_)
          · replace hf := x_pos (show r_16.1 = 0 from c_17) hf
            exact j181_114_ok hd hu4 hu5 hf
          · replace hf := x_neg (show ¬ r_16.1 = 0 from c_17) hf
            refine ev_do i181_110 rfl ?_
            refine sh_goto (t := 115) i181_111 rfl ?_
            exact j181_115_ok hd hu4 hu5 hf
  · replace hf := x_pos (show s0 = 0 from Decidable.byContradiction (fun h9 => c_1 h9)) hf
    refine sh_aload (i' := 0) (n := 1) i181_27 (Or.inr ⟨rfl, by decide⟩) rfl ?_
    obtain ⟨a_2, ea_2, hf⟩ := x_bind hf
    refine sh_getR i181_28 f181_53 ea_2 ?_
    refine sh_aload (i' := 0) (n := 1) i181_31 (Or.inr ⟨rfl, by decide⟩) rfl ?_
    obtain ⟨_, eu_9, hf⟩ := x_bind hf
    obtain ⟨r_3, er_3, hf⟩ := x_bind hf
    refine sh_inv (as := []) (z := (some (.int r_3.1), r_3.2)) i181_32 v181_274 (Or.inl ⟨by decide, rfl⟩) m174 rfl (by simp [xcat, xrv_cat, xc_i, xc_j, xc_a, xc_f]) eu_9 (fn174_call (by omega) er_3) ?_
    obtain ⟨v_4, ev_4, hf⟩ := x_bind hf
    refine sh_aldI (tg := 13) i181_35 (Or.inl ⟨rfl, rfl⟩) ev_4 ?_
    refine sh_istore (i' := 4) (n := 2) i181_36 (Or.inl rfl) (xokst_of (Nat.le_of_ble_eq_true rfl) rfl) ?_
    refine ev_do i181_38 rfl ?_
    refine ev_do i181_40 rfl ?_
    refine ev_icmp (t := 51) i181_41 rfl (fun c_5 => ?_) (fun c_5 => ?_)
    · replace hf := x_pos (show v_4 = 5 from c_5) hf
      exact j181_51_ok hd hu5 hf
    · replace hf := x_neg (show ¬ v_4 = 5 from c_5) hf
      refine ev_do i181_44 rfl ?_
      refine ev_do i181_46 rfl ?_
      refine ev_icmp (t := 60) i181_48 rfl (fun c_6 => ?_) (fun c_6 => ?_)
      · replace hf := x_neg (show ¬ v_4 = 6 from c_6) hf
        refine sh_aload (i' := 0) (n := 1) i181_60 (Or.inr ⟨rfl, by decide⟩) rfl ?_
        refine ev_do i181_61 rfl ?_
        obtain ⟨_, eu_8, hf⟩ := x_bind hf
        obtain ⟨h_7, eh_7, hf⟩ := x_bind hf
        refine sh_inv (as := [.int x1]) (z := (none, h_7)) i181_62 v181_305 (Or.inl ⟨by decide, rfl⟩) m175 rfl (Nat.le_of_ble_eq_true rfl) eu_8 (fn175_call (by omega) eh_7) ?_
        exact j181_65_ok hd hu5 hf
      · replace hf := x_pos (show v_4 = 6 from Decidable.byContradiction (fun h9 => c_6 h9)) hf
        exact j181_51_ok hd hu5 hf
def j181_17  (o0 : Option Nat) (x1 : Int32) (x2 : Int32) (h : xH) : Option xH := j181_22 o0 x1 x2 1 h
theorem j181_17_ok {xs : List Int32} {d : Nat} (hd : 8 ≤ d) {u3 : Value} {u4 : Value} {u5 : Value} {o0 : Option Nat} {x1 : Int32} {x2 : Int32} {h : xH} {r : xH} (hu3 : u3.category = 1) (hu4 : u4.category = 1) (hu5 : u5.category = 1) (hf : j181_17 o0 x1 x2 h = some r) : xEv (xTa xs) d 181 (17, [xrv o0, .int x1, .int x2, u3, u4, u5], [], h) (none, r) := by
  unfold j181_17 at hf
  refine ev_do i181_17 rfl ?_
  refine sh_goto (t := 22) i181_18 rfl ?_
  exact j181_22_ok hd hu3 hu4 hu5 hf
def fn181 (o0 : Option Nat) (x1 : Int32) (x2 : Int32) (h : xH) : Option xH := (xgR h o0 11 14).bind fun a_1 => (xaI h 13 a_1 40).bind fun v_2 => (if v_2 = 0 then j181_17 o0 x1 x2 h else (xgI h o0 11 36).bind fun v_4 => (if v_4 = 0 then j181_22 o0 x1 x2 0 h else j181_17 o0 x1 x2 h))
theorem fn181_call {xs : List Int32} {d : Nat} (hd : 9 ≤ d) {o0 : Option Nat} {x1 : Int32} {x2 : Int32} {h : xH} {r : xH} (hf : fn181 o0 x1 x2 h = some r) : xCall (xTa xs) d 181 [xrv o0, .int x1, .int x2] h (none, r) := by
  obtain ⟨d, rfl⟩ : ∃ d2, d = d2 + 1 := ⟨d - 1, by omega⟩
  replace hd : 8 ≤ d := by omega
  refine call_of2 (fl := [xrv o0, .int x1, .int x2]) (Ls := [xrv o0, .int x1, .int x2, .float 0, .float 0, .float 0]) m181 (by simp [xfl, xrv_cat, xc_i, xc_j, xc_a, xc_f]) (Nat.le_of_ble_eq_true rfl) rfl ?_
  unfold fn181 at hf
  refine sh_aload (i' := 0) (n := 1) i181_0 (Or.inr ⟨rfl, by decide⟩) rfl ?_
  obtain ⟨a_1, ea_1, hf⟩ := x_bind hf
  refine sh_getR i181_1 f181_47 ea_1 ?_
  refine ev_do i181_4 rfl ?_
  obtain ⟨v_2, ev_2, hf⟩ := x_bind hf
  refine sh_aldI (tg := 13) i181_6 (Or.inl ⟨rfl, rfl⟩) ev_2 ?_
  refine ev_if (t := 17) i181_7 rfl (fun c_3 => ?_) (fun c_3 => ?_)
  · replace hf := x_pos (show v_2 = 0 from c_3) hf
    exact j181_17_ok hd rfl rfl rfl hf
  · replace hf := x_neg (show ¬ v_2 = 0 from c_3) hf
    refine sh_aload (i' := 0) (n := 1) i181_10 (Or.inr ⟨rfl, by decide⟩) rfl ?_
    obtain ⟨v_4, ev_4, hf⟩ := x_bind hf
    refine sh_getI i181_11 f181_282 ev_4 ?_
    refine ev_if (t := 21) i181_14 rfl (fun c_5 => ?_) (fun c_5 => ?_)
    · replace hf := x_pos (show v_4 = 0 from c_5) hf
      refine ev_do i181_21 rfl ?_
      exact j181_22_ok hd rfl rfl rfl hf
    · replace hf := x_neg (show ¬ v_4 = 0 from c_5) hf
      exact j181_17_ok hd rfl rfl rfl hf
end
section
def j183_147  (o0 : Option Nat) (x1 : Int32) (x2 : Int32) (x3 : Int32) (x4 : Int32) (s0 : Int32) (h : xH) : Option (Int32 × xH) := some (s0, h)
theorem j183_147_ok {xs : List Int32} {d : Nat} (hd : 3 ≤ d) {o0 : Option Nat} {x1 : Int32} {x2 : Int32} {x3 : Int32} {x4 : Int32} {s0 : Int32} {h : xH} {r : (Int32 × xH)} (hf : j183_147 o0 x1 x2 x3 x4 s0 h = some r) : xEv (xTa xs) d 183 (147, [xrv o0, .int x1, .int x2, .int x3, .int x4], [.int s0], h) (some (.int r.1), r.2) := by
  unfold j183_147 at hf
  obtain rfl := Option.some.inj hf
  exact sh_iret i183_147 m183 rfl rfl
def j183_145  (o0 : Option Nat) (x1 : Int32) (x2 : Int32) (x3 : Int32) (x4 : Int32) (h : xH) : Option (Int32 × xH) := j183_147 o0 x1 x2 x3 x4 x4 h
theorem j183_145_ok {xs : List Int32} {d : Nat} (hd : 3 ≤ d) {o0 : Option Nat} {x1 : Int32} {x2 : Int32} {x3 : Int32} {x4 : Int32} {h : xH} {r : (Int32 × xH)} (hf : j183_145 o0 x1 x2 x3 x4 h = some r) : xEv (xTa xs) d 183 (145, [xrv o0, .int x1, .int x2, .int x3, .int x4], [], h) (some (.int r.1), r.2) := by
  unfold j183_145 at hf
  refine ev_do i183_145 rfl ?_
  exact j183_147_ok hd hf
def j183_119  (o0 : Option Nat) (x1 : Int32) (x2 : Int32) (x3 : Int32) (x4 : Int32) (s0 : Int32) (h : xH) : Option (Int32 × xH) := (if x3 = 5 then (xcv h o0 11).bind fun _ => (fn168 o0 (x1 + 1) 495690081125 5 h).bind fun r_2 => (if r_2.1 = 0 then j183_145 o0 x1 x2 x3 s0 r_2.2 else j183_147 o0 x1 x2 x3 s0 6 r_2.2) else j183_145 o0 x1 x2 x3 s0 h)
theorem j183_119_ok {xs : List Int32} {d : Nat} (hd : 3 ≤ d) {o0 : Option Nat} {x1 : Int32} {x2 : Int32} {x3 : Int32} {x4 : Int32} {s0 : Int32} {h : xH} {r : (Int32 × xH)} (hf : j183_119 o0 x1 x2 x3 x4 s0 h = some r) : xEv (xTa xs) d 183 (119, [xrv o0, .int x1, .int x2, .int x3, .int x4], [.int s0], h) (some (.int r.1), r.2) := by
  unfold j183_119 at hf
  refine sh_istore (i' := 4) (n := 2) i183_119 (Or.inl rfl) (xokst_of (Nat.le_of_ble_eq_true rfl) rfl) ?_
  refine ev_do i183_121 rfl ?_
  refine ev_do i183_122 rfl ?_
  refine ev_icmp (t := 145) i183_123 rfl (fun c_1 => ?_) (fun c_1 => ?_)
  · replace hf := x_neg (show ¬ x3 = 5 from c_1) hf
    exact j183_145_ok hd hf
  · replace hf := x_pos (show x3 = 5 from Decidable.byContradiction (fun h9 => c_1 h9)) hf
    refine sh_aload (i' := 0) (n := 1) i183_126 (Or.inr ⟨rfl, by decide⟩) rfl ?_
    refine ev_do i183_127 rfl ?_
    refine ev_do i183_128 rfl ?_
    refine ev_do i183_129 rfl ?_
    refine ev_do i183_130 (show xpush? 3 ((xtJ (xTa xs) 183 327).map .long) 130 _ _ _ = _ from by rw [w183_327]; rfl) ?_
    refine ev_do i183_133 rfl ?_
    obtain ⟨_, eu_4, hf⟩ := x_bind hf
    obtain ⟨r_2, er_2, hf⟩ := x_bind hf
    refine sh_inv (as := [.int 5, .long 495690081125, .int (x1 + 1)]) (z := (some (.int r_2.1), r_2.2)) i183_134 v183_234 (Or.inl ⟨by decide, rfl⟩) m168 rfl (Nat.le_of_ble_eq_true rfl) eu_4 (fn168_call (by omega) er_2) ?_
    refine ev_if (t := 145) i183_137 rfl (fun c_3 => ?_) (fun c_3 => ?_)
    · replace hf := x_pos (show r_2.1 = 0 from c_3) hf
      exact j183_145_ok hd hf
    · replace hf := x_neg (show ¬ r_2.1 = 0 from c_3) hf
      refine ev_do i183_140 rfl ?_
      refine sh_goto (t := 147) i183_142 rfl ?_
      exact j183_147_ok hd hf
def j183_117  (o0 : Option Nat) (x1 : Int32) (x2 : Int32) (x3 : Int32) (x4 : Int32) (h : xH) : Option (Int32 × xH) := j183_119 o0 x1 x2 x3 x4 x4 h
theorem j183_117_ok {xs : List Int32} {d : Nat} (hd : 3 ≤ d) {o0 : Option Nat} {x1 : Int32} {x2 : Int32} {x3 : Int32} {x4 : Int32} {h : xH} {r : (Int32 × xH)} (hf : j183_117 o0 x1 x2 x3 x4 h = some r) : xEv (xTa xs) d 183 (117, [xrv o0, .int x1, .int x2, .int x3, .int x4], [], h) (some (.int r.1), r.2) := by
  unfold j183_117 at hf
  refine ev_do i183_117 rfl ?_
  exact j183_119_ok hd hf
def j183_92  (o0 : Option Nat) (x1 : Int32) (x2 : Int32) (x3 : Int32) (x4 : Int32) (s0 : Int32) (h : xH) : Option (Int32 × xH) := (if x3 = 3 then (xcv h o0 11).bind fun _ => (fn168 o0 (x1 + 1) 7562597 3 h).bind fun r_2 => (if r_2.1 = 0 then j183_117 o0 x1 x2 x3 s0 r_2.2 else j183_119 o0 x1 x2 x3 s0 5 r_2.2) else j183_117 o0 x1 x2 x3 s0 h)
theorem j183_92_ok {xs : List Int32} {d : Nat} (hd : 3 ≤ d) {o0 : Option Nat} {x1 : Int32} {x2 : Int32} {x3 : Int32} {x4 : Int32} {s0 : Int32} {h : xH} {r : (Int32 × xH)} (hf : j183_92 o0 x1 x2 x3 x4 s0 h = some r) : xEv (xTa xs) d 183 (92, [xrv o0, .int x1, .int x2, .int x3, .int x4], [.int s0], h) (some (.int r.1), r.2) := by
  unfold j183_92 at hf
  refine sh_istore (i' := 4) (n := 2) i183_92 (Or.inl rfl) (xokst_of (Nat.le_of_ble_eq_true rfl) rfl) ?_
  refine ev_do i183_94 rfl ?_
  refine ev_do i183_95 rfl ?_
  refine ev_icmp (t := 117) i183_96 rfl (fun c_1 => ?_) (fun c_1 => ?_)
  · replace hf := x_neg (show ¬ x3 = 3 from c_1) hf
    exact j183_117_ok hd hf
  · replace hf := x_pos (show x3 = 3 from Decidable.byContradiction (fun h9 => c_1 h9)) hf
    refine sh_aload (i' := 0) (n := 1) i183_99 (Or.inr ⟨rfl, by decide⟩) rfl ?_
    refine ev_do i183_100 rfl ?_
    refine ev_do i183_101 rfl ?_
    refine ev_do i183_102 rfl ?_
    refine ev_do i183_103 (show xpush? 3 ((xtJ (xTa xs) 183 325).map .long) 103 _ _ _ = _ from by rw [w183_325]; rfl) ?_
    refine ev_do i183_106 rfl ?_
    obtain ⟨_, eu_4, hf⟩ := x_bind hf
    obtain ⟨r_2, er_2, hf⟩ := x_bind hf
    refine sh_inv (as := [.int 3, .long 7562597, .int (x1 + 1)]) (z := (some (.int r_2.1), r_2.2)) i183_107 v183_234 (Or.inl ⟨by decide, rfl⟩) m168 rfl (Nat.le_of_ble_eq_true rfl) eu_4 (fn168_call (by omega) er_2) ?_
    refine ev_if (t := 117) i183_110 rfl (fun c_3 => ?_) (fun c_3 => ?_)
    · replace hf := x_pos (show r_2.1 = 0 from c_3) hf
      exact j183_117_ok hd hf
    · replace hf := x_neg (show ¬ r_2.1 = 0 from c_3) hf
      refine ev_do i183_113 rfl ?_
      refine sh_goto (t := 119) i183_114 rfl ?_
      exact j183_119_ok hd hf
def j183_90  (o0 : Option Nat) (x1 : Int32) (x2 : Int32) (x3 : Int32) (x4 : Int32) (h : xH) : Option (Int32 × xH) := j183_92 o0 x1 x2 x3 x4 x4 h
theorem j183_90_ok {xs : List Int32} {d : Nat} (hd : 3 ≤ d) {o0 : Option Nat} {x1 : Int32} {x2 : Int32} {x3 : Int32} {x4 : Int32} {h : xH} {r : (Int32 × xH)} (hf : j183_90 o0 x1 x2 x3 x4 h = some r) : xEv (xTa xs) d 183 (90, [xrv o0, .int x1, .int x2, .int x3, .int x4], [], h) (some (.int r.1), r.2) := by
  unfold j183_90 at hf
  refine ev_do i183_90 rfl ?_
  exact j183_92_ok hd hf
def j183_63  (o0 : Option Nat) (x1 : Int32) (x2 : Int32) (x3 : Int32) (x4 : Int32) (s0 : Int32) (h : xH) : Option (Int32 × xH) := (if x3 = 6 then (xcv h o0 11).bind fun _ => (fn168 o0 (x1 + 1) 127991945328499 6 h).bind fun r_2 => (if r_2.1 = 0 then j183_90 o0 x1 x2 x3 s0 r_2.2 else j183_92 o0 x1 x2 x3 s0 4 r_2.2) else j183_90 o0 x1 x2 x3 s0 h)
theorem j183_63_ok {xs : List Int32} {d : Nat} (hd : 3 ≤ d) {o0 : Option Nat} {x1 : Int32} {x2 : Int32} {x3 : Int32} {x4 : Int32} {s0 : Int32} {h : xH} {r : (Int32 × xH)} (hf : j183_63 o0 x1 x2 x3 x4 s0 h = some r) : xEv (xTa xs) d 183 (63, [xrv o0, .int x1, .int x2, .int x3, .int x4], [.int s0], h) (some (.int r.1), r.2) := by
  unfold j183_63 at hf
  refine sh_istore (i' := 4) (n := 2) i183_63 (Or.inl rfl) (xokst_of (Nat.le_of_ble_eq_true rfl) rfl) ?_
  refine ev_do i183_65 rfl ?_
  refine ev_do i183_66 rfl ?_
  refine ev_icmp (t := 90) i183_68 rfl (fun c_1 => ?_) (fun c_1 => ?_)
  · replace hf := x_neg (show ¬ x3 = 6 from c_1) hf
    exact j183_90_ok hd hf
  · replace hf := x_pos (show x3 = 6 from Decidable.byContradiction (fun h9 => c_1 h9)) hf
    refine sh_aload (i' := 0) (n := 1) i183_71 (Or.inr ⟨rfl, by decide⟩) rfl ?_
    refine ev_do i183_72 rfl ?_
    refine ev_do i183_73 rfl ?_
    refine ev_do i183_74 rfl ?_
    refine ev_do i183_75 (show xpush? 3 ((xtJ (xTa xs) 183 323).map .long) 75 _ _ _ = _ from by rw [w183_323]; rfl) ?_
    refine ev_do i183_78 rfl ?_
    obtain ⟨_, eu_4, hf⟩ := x_bind hf
    obtain ⟨r_2, er_2, hf⟩ := x_bind hf
    refine sh_inv (as := [.int 6, .long 127991945328499, .int (x1 + 1)]) (z := (some (.int r_2.1), r_2.2)) i183_80 v183_234 (Or.inl ⟨by decide, rfl⟩) m168 rfl (Nat.le_of_ble_eq_true rfl) eu_4 (fn168_call (by omega) er_2) ?_
    refine ev_if (t := 90) i183_83 rfl (fun c_3 => ?_) (fun c_3 => ?_)
    · replace hf := x_pos (show r_2.1 = 0 from c_3) hf
      exact j183_90_ok hd hf
    · replace hf := x_neg (show ¬ r_2.1 = 0 from c_3) hf
      refine ev_do i183_86 rfl ?_
      refine sh_goto (t := 92) i183_87 rfl ?_
      exact j183_92_ok hd hf
def j183_61  (o0 : Option Nat) (x1 : Int32) (x2 : Int32) (x3 : Int32) (x4 : Int32) (h : xH) : Option (Int32 × xH) := j183_63 o0 x1 x2 x3 x4 x4 h
theorem j183_61_ok {xs : List Int32} {d : Nat} (hd : 3 ≤ d) {o0 : Option Nat} {x1 : Int32} {x2 : Int32} {x3 : Int32} {x4 : Int32} {h : xH} {r : (Int32 × xH)} (hf : j183_61 o0 x1 x2 x3 x4 h = some r) : xEv (xTa xs) d 183 (61, [xrv o0, .int x1, .int x2, .int x3, .int x4], [], h) (some (.int r.1), r.2) := by
  unfold j183_61 at hf
  refine ev_do i183_61 rfl ?_
  exact j183_63_ok hd hf
def j183_34  (o0 : Option Nat) (x1 : Int32) (x2 : Int32) (x3 : Int32) (x4 : Int32) (s0 : Int32) (h : xH) : Option (Int32 × xH) := (if x3 = 6 then (xcv h o0 11).bind fun _ => (fn168 o0 (x1 + 1) 125780071117422 6 h).bind fun r_2 => (if r_2.1 = 0 then j183_61 o0 x1 x2 x3 s0 r_2.2 else j183_63 o0 x1 x2 x3 s0 3 r_2.2) else j183_61 o0 x1 x2 x3 s0 h)
theorem j183_34_ok {xs : List Int32} {d : Nat} (hd : 3 ≤ d) {o0 : Option Nat} {x1 : Int32} {x2 : Int32} {x3 : Int32} {x4 : Int32} {s0 : Int32} {h : xH} {r : (Int32 × xH)} (hf : j183_34 o0 x1 x2 x3 x4 s0 h = some r) : xEv (xTa xs) d 183 (34, [xrv o0, .int x1, .int x2, .int x3, .int x4], [.int s0], h) (some (.int r.1), r.2) := by
  unfold j183_34 at hf
  refine sh_istore (i' := 4) (n := 2) i183_34 (Or.inl rfl) (xokst_of (Nat.le_of_ble_eq_true rfl) rfl) ?_
  refine ev_do i183_36 rfl ?_
  refine ev_do i183_37 rfl ?_
  refine ev_icmp (t := 61) i183_39 rfl (fun c_1 => ?_) (fun c_1 => ?_)
  · replace hf := x_neg (show ¬ x3 = 6 from c_1) hf
    exact j183_61_ok hd hf
  · replace hf := x_pos (show x3 = 6 from Decidable.byContradiction (fun h9 => c_1 h9)) hf
    refine sh_aload (i' := 0) (n := 1) i183_42 (Or.inr ⟨rfl, by decide⟩) rfl ?_
    refine ev_do i183_43 rfl ?_
    refine ev_do i183_44 rfl ?_
    refine ev_do i183_45 rfl ?_
    refine ev_do i183_46 (show xpush? 3 ((xtJ (xTa xs) 183 321).map .long) 46 _ _ _ = _ from by rw [w183_321]; rfl) ?_
    refine ev_do i183_49 rfl ?_
    obtain ⟨_, eu_4, hf⟩ := x_bind hf
    obtain ⟨r_2, er_2, hf⟩ := x_bind hf
    refine sh_inv (as := [.int 6, .long 125780071117422, .int (x1 + 1)]) (z := (some (.int r_2.1), r_2.2)) i183_51 v183_234 (Or.inl ⟨by decide, rfl⟩) m168 rfl (Nat.le_of_ble_eq_true rfl) eu_4 (fn168_call (by omega) er_2) ?_
    refine ev_if (t := 61) i183_54 rfl (fun c_3 => ?_) (fun c_3 => ?_)
    · replace hf := x_pos (show r_2.1 = 0 from c_3) hf
      exact j183_61_ok hd hf
    · replace hf := x_neg (show ¬ r_2.1 = 0 from c_3) hf
      refine ev_do i183_57 rfl ?_
      refine sh_goto (t := 63) i183_58 rfl ?_
      exact j183_63_ok hd hf
def j183_32  (o0 : Option Nat) (x1 : Int32) (x2 : Int32) (x3 : Int32) (x4 : Int32) (h : xH) : Option (Int32 × xH) := j183_34 o0 x1 x2 x3 x4 x4 h
theorem j183_32_ok {xs : List Int32} {d : Nat} (hd : 3 ≤ d) {o0 : Option Nat} {x1 : Int32} {x2 : Int32} {x3 : Int32} {x4 : Int32} {h : xH} {r : (Int32 × xH)} (hf : j183_32 o0 x1 x2 x3 x4 h = some r) : xEv (xTa xs) d 183 (32, [xrv o0, .int x1, .int x2, .int x3, .int x4], [], h) (some (.int r.1), r.2) := by
  unfold j183_32 at hf
  refine ev_do i183_32 rfl ?_
  exact j183_34_ok hd hf
def fn183 (o0 : Option Nat) (x1 : Int32) (x2 : Int32) (h : xH) : Option (Int32 × xH) := (if ((x2 - x1) - 1) = 5 then (xcv h o0 11).bind fun _ => (fn168 o0 (x1 + 1) 482671223149 5 h).bind fun r_2 => (if r_2.1 = 0 then j183_32 o0 x1 x2 ((x2 - x1) - 1) (-1) r_2.2 else j183_34 o0 x1 x2 ((x2 - x1) - 1) (-1) 2 r_2.2) else j183_32 o0 x1 x2 ((x2 - x1) - 1) (-1) h)
theorem fn183_call {xs : List Int32} {d : Nat} (hd : 4 ≤ d) {o0 : Option Nat} {x1 : Int32} {x2 : Int32} {h : xH} {r : (Int32 × xH)} (hf : fn183 o0 x1 x2 h = some r) : xCall (xTa xs) d 183 [xrv o0, .int x1, .int x2] h (some (.int r.1), r.2) := by
  obtain ⟨d, rfl⟩ : ∃ d2, d = d2 + 1 := ⟨d - 1, by omega⟩
  replace hd : 3 ≤ d := by omega
  refine call_of2 (fl := [xrv o0, .int x1, .int x2]) (Ls := [xrv o0, .int x1, .int x2, .float 0, .float 0]) m183 (by simp [xfl, xrv_cat, xc_i, xc_j, xc_a, xc_f]) (Nat.le_of_ble_eq_true rfl) rfl ?_
  unfold fn183 at hf
  refine ev_do i183_0 rfl ?_
  refine ev_do i183_1 rfl ?_
  refine ev_do i183_2 rfl ?_
  refine ev_do i183_3 rfl ?_
  refine ev_do i183_4 rfl ?_
  refine sh_istore (i' := 3) (n := 1) i183_5 (Or.inr ⟨rfl, by decide⟩) (xokst_of (Nat.le_of_ble_eq_true rfl) rfl) ?_
  refine ev_do i183_6 rfl ?_
  refine sh_istore (i' := 4) (n := 2) i183_7 (Or.inl rfl) (xokst_of (Nat.le_of_ble_eq_true rfl) rfl) ?_
  refine ev_do i183_9 rfl ?_
  refine ev_do i183_10 rfl ?_
  refine ev_icmp (t := 32) i183_11 rfl (fun c_1 => ?_) (fun c_1 => ?_)
  · replace hf := x_neg (show ¬ ((x2 - x1) - 1) = 5 from c_1) hf
    exact j183_32_ok hd hf
  · replace hf := x_pos (show ((x2 - x1) - 1) = 5 from Decidable.byContradiction (fun h9 => c_1 h9)) hf
    refine sh_aload (i' := 0) (n := 1) i183_14 (Or.inr ⟨rfl, by decide⟩) rfl ?_
    refine ev_do i183_15 rfl ?_
    refine ev_do i183_16 rfl ?_
    refine ev_do i183_17 rfl ?_
    refine ev_do i183_18 (show xpush? 3 ((xtJ (xTa xs) 183 319).map .long) 18 _ _ _ = _ from by rw [w183_319]; rfl) ?_
    refine ev_do i183_21 rfl ?_
    obtain ⟨_, eu_4, hf⟩ := x_bind hf
    obtain ⟨r_2, er_2, hf⟩ := x_bind hf
    refine sh_inv (as := [.int 5, .long 482671223149, .int (x1 + 1)]) (z := (some (.int r_2.1), r_2.2)) i183_22 v183_234 (Or.inl ⟨by decide, rfl⟩) m168 rfl (Nat.le_of_ble_eq_true rfl) eu_4 (fn168_call (by omega) er_2) ?_
    refine ev_if (t := 32) i183_25 rfl (fun c_3 => ?_) (fun c_3 => ?_)
    · replace hf := x_pos (show r_2.1 = 0 from c_3) hf
      exact j183_32_ok hd hf
    · replace hf := x_neg (show ¬ r_2.1 = 0 from c_3) hf
      refine ev_do i183_28 rfl ?_
      refine sh_goto (t := 34) i183_29 rfl ?_
      exact j183_34_ok hd hf
end
section
def j184_38 (k4 : Option Nat → Int32 → Int32 → Int32 → xH → Option (Int32 × xH)) (o0 : Option Nat) (x1 : Int32) (x2 : Int32) (x3 : Int32) (s0 : Int32) (h : xH) : Option (Int32 × xH) := k4 o0 x1 s0 (x3 + 1) h
theorem j184_38_ok {xs : List Int32} {d : Nat} (hd : 1 ≤ d) {k4 : Option Nat → Int32 → Int32 → Int32 → xH → Option (Int32 × xH)} (hk4 : ∀ {o0 : Option Nat} {x1 : Int32} {x2 : Int32} {x3 : Int32} {h : xH} {r : (Int32 × xH)}, k4 o0 x1 x2 x3 h = some r → xEv (xTa xs) d 184 (4, [xrv o0, .int x1, .int x2, .int x3], [], h) (some (.int r.1), r.2)) {o0 : Option Nat} {x1 : Int32} {x2 : Int32} {x3 : Int32} {s0 : Int32} {h : xH} {r : (Int32 × xH)} (hf : j184_38 k4 o0 x1 x2 x3 s0 h = some r) : xEv (xTa xs) d 184 (38, [xrv o0, .int x1, .int x2, .int x3], [.int s0], h) (some (.int r.1), r.2) := by
  unfold j184_38 at hf
  refine sh_istore (i' := 2) (n := 1) i184_38 (Or.inr ⟨rfl, by decide⟩) (xokst_of (Nat.le_of_ble_eq_true rfl) rfl) ?_
  refine sh_inc (i' := 3) i184_39 rfl (xokst_of (Nat.le_of_ble_eq_true rfl) rfl) rfl ?_
  refine sh_goto (t := 4) i184_42 rfl ?_
  exact hk4 hf
def j184_33 (k4 : Option Nat → Int32 → Int32 → Int32 → xH → Option (Int32 × xH)) (o0 : Option Nat) (x1 : Int32) (x2 : Int32) (x3 : Int32) (h : xH) : Option (Int32 × xH) := j184_38 k4 o0 x1 x2 x3 1 h
theorem j184_33_ok {xs : List Int32} {d : Nat} (hd : 1 ≤ d) {k4 : Option Nat → Int32 → Int32 → Int32 → xH → Option (Int32 × xH)} (hk4 : ∀ {o0 : Option Nat} {x1 : Int32} {x2 : Int32} {x3 : Int32} {h : xH} {r : (Int32 × xH)}, k4 o0 x1 x2 x3 h = some r → xEv (xTa xs) d 184 (4, [xrv o0, .int x1, .int x2, .int x3], [], h) (some (.int r.1), r.2)) {o0 : Option Nat} {x1 : Int32} {x2 : Int32} {x3 : Int32} {h : xH} {r : (Int32 × xH)} (hf : j184_33 k4 o0 x1 x2 x3 h = some r) : xEv (xTa xs) d 184 (33, [xrv o0, .int x1, .int x2, .int x3], [], h) (some (.int r.1), r.2) := by
  unfold j184_33 at hf
  refine ev_do i184_33 rfl ?_
  refine sh_goto (t := 38) i184_34 rfl ?_
  exact j184_38_ok hd hk4 hf
def l184_4  : Nat → Option Nat → Int32 → Int32 → Int32 → xH → Option (Int32 × xH)
  | 0 => fun _ _ _ _ _ => none
  | n + 1 => fun o0 x1 x2 x3 h => (xgR h o0 11 14).bind fun a_1 => (xaI h 13 a_1 40).bind fun v_2 => (if v_2 ≤ x3 then (if x2 &&& 1 = x2 then some (x2, h) else none) else (if x2 = 0 then (xgR h o0 11 16).bind fun a_6 => (xaI h 13 a_6 (960 + x3)).bind fun v_7 => (if v_7 = x1 then j184_33 (l184_4 n) o0 x1 x2 x3 h else j184_38 (l184_4 n) o0 x1 x2 x3 0 h) else j184_33 (l184_4 n) o0 x1 x2 x3 h))
theorem l184_4_ok {xs : List Int32} {d : Nat} (hd : 1 ≤ d) : ∀ (n : Nat) {o0 : Option Nat} {x1 : Int32} {x2 : Int32} {x3 : Int32} {h : xH} {r : (Int32 × xH)}, l184_4 n o0 x1 x2 x3 h = some r → xEv (xTa xs) d 184 (4, [xrv o0, .int x1, .int x2, .int x3], [], h) (some (.int r.1), r.2) := by
  intro n
  induction n with
  | zero => intros; rename_i hf; cases hf
  | succ n ih =>
    intro o0 x1 x2 x3 h r hf
    replace hf : ((xgR h o0 11 14).bind fun a_1 => (xaI h 13 a_1 40).bind fun v_2 => (if v_2 ≤ x3 then (if x2 &&& 1 = x2 then some (x2, h) else none) else (if x2 = 0 then (xgR h o0 11 16).bind fun a_6 => (xaI h 13 a_6 (960 + x3)).bind fun v_7 => (if v_7 = x1 then j184_33 (l184_4 n) o0 x1 x2 x3 h else j184_38 (l184_4 n) o0 x1 x2 x3 0 h) else j184_33 (l184_4 n) o0 x1 x2 x3 h))) = some r := hf
    refine ev_do i184_4 rfl ?_
    refine sh_aload (i' := 0) (n := 1) i184_5 (Or.inr ⟨rfl, by decide⟩) rfl ?_
    obtain ⟨a_1, ea_1, hf⟩ := x_bind hf
    refine sh_getR i184_6 f184_47 ea_1 ?_
    refine ev_do i184_9 rfl ?_
    obtain ⟨v_2, ev_2, hf⟩ := x_bind hf
    refine sh_aldI (tg := 13) i184_11 (Or.inl ⟨rfl, rfl⟩) ev_2 ?_
    refine ev_icmp (t := 45) i184_12 rfl (fun c_3 => ?_) (fun c_3 => ?_)
    · replace hf := x_pos (show v_2 ≤ x3 from c_3) hf
      refine ev_do i184_45 rfl ?_
      by_cases c_4 : x2 &&& 1 = x2
      · replace hf := x_pos c_4 hf
        obtain rfl := Option.some.inj hf
        exact sh_iret i184_46 m184 rfl (congrArg Value.int c_4)
      · replace hf := x_neg c_4 hf
        cases hf
    · replace hf := x_neg (show ¬ v_2 ≤ x3 from c_3) hf
      refine ev_do i184_15 rfl ?_
      refine ev_if (t := 33) i184_16 rfl (fun c_5 => ?_) (fun c_5 => ?_)
      · replace hf := x_neg (show ¬ x2 = 0 from c_5) hf
        exact j184_33_ok hd ih hf
      · replace hf := x_pos (show x2 = 0 from Decidable.byContradiction (fun h9 => c_5 h9)) hf
        refine sh_aload (i' := 0) (n := 1) i184_19 (Or.inr ⟨rfl, by decide⟩) rfl ?_
        obtain ⟨a_6, ea_6, hf⟩ := x_bind hf
        refine sh_getR i184_20 f184_53 ea_6 ?_
        refine ev_do i184_23 rfl ?_
        refine ev_do i184_26 rfl ?_
        refine ev_do i184_27 rfl ?_
        obtain ⟨v_7, ev_7, hf⟩ := x_bind hf
        refine sh_aldI (tg := 13) i184_28 (Or.inl ⟨rfl, rfl⟩) ev_7 ?_
        refine ev_do i184_29 rfl ?_
        refine ev_icmp (t := 37) i184_30 rfl (fun c_8 => ?_) (fun c_8 => ?_)
        · replace hf := x_neg (show ¬ v_7 = x1 from c_8) hf
          refine ev_do i184_37 rfl ?_
          exact j184_38_ok hd ih hf
        · replace hf := x_pos (show v_7 = x1 from Decidable.byContradiction (fun h9 => c_8 h9)) hf
          exact j184_33_ok hd ih hf
def fn184 (o0 : Option Nat) (x1 : Int32) (h : xH) : Option (Int32 × xH) := l184_4 xFuel o0 x1 0 0 h
theorem fn184_call {xs : List Int32} {d : Nat} (hd : 2 ≤ d) {o0 : Option Nat} {x1 : Int32} {h : xH} {r : (Int32 × xH)} (hf : fn184 o0 x1 h = some r) : xCall (xTa xs) d 184 [xrv o0, .int x1] h (some (.int r.1), r.2) := by
  obtain ⟨d, rfl⟩ : ∃ d2, d = d2 + 1 := ⟨d - 1, by omega⟩
  replace hd : 1 ≤ d := by omega
  refine call_of2 (fl := [xrv o0, .int x1]) (Ls := [xrv o0, .int x1, .float 0, .float 0]) m184 (by simp [xfl, xrv_cat, xc_i, xc_j, xc_a, xc_f]) (Nat.le_of_ble_eq_true rfl) rfl ?_
  unfold fn184 at hf
  refine ev_do i184_0 rfl ?_
  refine sh_istore (i' := 2) (n := 1) i184_1 (Or.inr ⟨rfl, by decide⟩) (xokst_of (Nat.le_of_ble_eq_true rfl) rfl) ?_
  refine ev_do i184_2 rfl ?_
  refine sh_istore (i' := 3) (n := 1) i184_3 (Or.inr ⟨rfl, by decide⟩) (xokst_of (Nat.le_of_ble_eq_true rfl) rfl) ?_
  exact l184_4_ok hd xFuel hf
end
section
def j185_120 (k5 : Option Nat → Int32 → Int32 → Int32 → Int32 → xH → Option (Int32 × xH)) (o0 : Option Nat) (x1 : Int32) (x2 : Int32) (x3 : Int32) (x4 : Int32) (x5 : Int32) (x6 : Int32) (x7 : Int32) (s0 : Int32) (h : xH) : Option (Int32 × xH) := k5 o0 x1 x2 s0 (x4 + 1) h
theorem j185_120_ok {xs : List Int32} {d : Nat} (hd : 2 ≤ d) {k5 : Option Nat → Int32 → Int32 → Int32 → Int32 → xH → Option (Int32 × xH)} (hk5 : ∀ {u5 : Value} {u6 : Value} {u7 : Value} {o0 : Option Nat} {x1 : Int32} {x2 : Int32} {x3 : Int32} {x4 : Int32} {h : xH} {r : (Int32 × xH)}, u5.category = 1 → u6.category = 1 → u7.category = 1 → k5 o0 x1 x2 x3 x4 h = some r → xEv (xTa xs) d 185 (5, [xrv o0, .int x1, .int x2, .int x3, .int x4, u5, u6, u7], [], h) (some (.int r.1), r.2)) {o0 : Option Nat} {x1 : Int32} {x2 : Int32} {x3 : Int32} {x4 : Int32} {x5 : Int32} {x6 : Int32} {x7 : Int32} {s0 : Int32} {h : xH} {r : (Int32 × xH)} (hf : j185_120 k5 o0 x1 x2 x3 x4 x5 x6 x7 s0 h = some r) : xEv (xTa xs) d 185 (120, [xrv o0, .int x1, .int x2, .int x3, .int x4, .int x5, .int x6, .int x7], [.int s0], h) (some (.int r.1), r.2) := by
  unfold j185_120 at hf
  refine sh_istore (i' := 3) (n := 1) i185_120 (Or.inr ⟨rfl, by decide⟩) (xokst_of (Nat.le_of_ble_eq_true rfl) rfl) ?_
  refine sh_inc (i' := 4) i185_121 rfl (xokst_of (Nat.le_of_ble_eq_true rfl) rfl) rfl ?_
  refine sh_goto (t := 5) i185_124 rfl ?_
  exact hk5 rfl rfl rfl hf
def j185_115 (k5 : Option Nat → Int32 → Int32 → Int32 → Int32 → xH → Option (Int32 × xH)) (o0 : Option Nat) (x1 : Int32) (x2 : Int32) (x3 : Int32) (x4 : Int32) (x5 : Int32) (x6 : Int32) (x7 : Int32) (h : xH) : Option (Int32 × xH) := j185_120 k5 o0 x1 x2 x3 x4 x5 x6 x7 1 h
theorem j185_115_ok {xs : List Int32} {d : Nat} (hd : 2 ≤ d) {k5 : Option Nat → Int32 → Int32 → Int32 → Int32 → xH → Option (Int32 × xH)} (hk5 : ∀ {u5 : Value} {u6 : Value} {u7 : Value} {o0 : Option Nat} {x1 : Int32} {x2 : Int32} {x3 : Int32} {x4 : Int32} {h : xH} {r : (Int32 × xH)}, u5.category = 1 → u6.category = 1 → u7.category = 1 → k5 o0 x1 x2 x3 x4 h = some r → xEv (xTa xs) d 185 (5, [xrv o0, .int x1, .int x2, .int x3, .int x4, u5, u6, u7], [], h) (some (.int r.1), r.2)) {o0 : Option Nat} {x1 : Int32} {x2 : Int32} {x3 : Int32} {x4 : Int32} {x5 : Int32} {x6 : Int32} {x7 : Int32} {h : xH} {r : (Int32 × xH)} (hf : j185_115 k5 o0 x1 x2 x3 x4 x5 x6 x7 h = some r) : xEv (xTa xs) d 185 (115, [xrv o0, .int x1, .int x2, .int x3, .int x4, .int x5, .int x6, .int x7], [], h) (some (.int r.1), r.2) := by
  unfold j185_115 at hf
  refine ev_do i185_115 rfl ?_
  refine sh_goto (t := 120) i185_116 rfl ?_
  exact j185_120_ok hd hk5 hf
def j185_106 (k5 : Option Nat → Int32 → Int32 → Int32 → Int32 → xH → Option (Int32 × xH)) (o0 : Option Nat) (x1 : Int32) (x2 : Int32) (x3 : Int32) (x4 : Int32) (x5 : Int32) (x6 : Int32) (x7 : Int32) (h : xH) : Option (Int32 × xH) := (if x3 = 0 then (if x6 = 0 then j185_120 k5 o0 x1 x2 x3 x4 x5 x6 x7 0 h else j185_115 k5 o0 x1 x2 x3 x4 x5 x6 x7 h) else j185_115 k5 o0 x1 x2 x3 x4 x5 x6 x7 h)
theorem j185_106_ok {xs : List Int32} {d : Nat} (hd : 2 ≤ d) {k5 : Option Nat → Int32 → Int32 → Int32 → Int32 → xH → Option (Int32 × xH)} (hk5 : ∀ {u5 : Value} {u6 : Value} {u7 : Value} {o0 : Option Nat} {x1 : Int32} {x2 : Int32} {x3 : Int32} {x4 : Int32} {h : xH} {r : (Int32 × xH)}, u5.category = 1 → u6.category = 1 → u7.category = 1 → k5 o0 x1 x2 x3 x4 h = some r → xEv (xTa xs) d 185 (5, [xrv o0, .int x1, .int x2, .int x3, .int x4, u5, u6, u7], [], h) (some (.int r.1), r.2)) {o0 : Option Nat} {x1 : Int32} {x2 : Int32} {x3 : Int32} {x4 : Int32} {x5 : Int32} {x6 : Int32} {x7 : Int32} {h : xH} {r : (Int32 × xH)} (hf : j185_106 k5 o0 x1 x2 x3 x4 x5 x6 x7 h = some r) : xEv (xTa xs) d 185 (106, [xrv o0, .int x1, .int x2, .int x3, .int x4, .int x5, .int x6, .int x7], [], h) (some (.int r.1), r.2) := by
  unfold j185_106 at hf
  refine ev_do i185_106 rfl ?_
  refine ev_if (t := 115) i185_107 rfl (fun c_1 => ?_) (fun c_1 => ?_)
  · replace hf := x_neg (show ¬ x3 = 0 from c_1) hf
    exact j185_115_ok hd hk5 hf
  · replace hf := x_pos (show x3 = 0 from Decidable.byContradiction (fun h9 => c_1 h9)) hf
    refine ev_do i185_110 rfl ?_
    refine ev_if (t := 119) i185_112 rfl (fun c_2 => ?_) (fun c_2 => ?_)
    · replace hf := x_pos (show x6 = 0 from c_2) hf
      refine ev_do i185_119 rfl ?_
      exact j185_120_ok hd hk5 hf
    · replace hf := x_neg (show ¬ x6 = 0 from c_2) hf
      exact j185_115_ok hd hk5 hf
def j185_98 (k5 : Option Nat → Int32 → Int32 → Int32 → Int32 → xH → Option (Int32 × xH)) (k57 : Option Nat → Int32 → Int32 → Int32 → Int32 → Int32 → Int32 → Int32 → xH → Option (Int32 × xH)) (o0 : Option Nat) (x1 : Int32) (x2 : Int32) (x3 : Int32) (x4 : Int32) (x5 : Int32) (x6 : Int32) (x7 : Int32) (s0 : Int32) (h : xH) : Option (Int32 × xH) := k57 o0 x1 x2 x3 x4 x5 s0 (x7 + 1) h
theorem j185_98_ok {xs : List Int32} {d : Nat} (hd : 2 ≤ d) {k5 : Option Nat → Int32 → Int32 → Int32 → Int32 → xH → Option (Int32 × xH)} {k57 : Option Nat → Int32 → Int32 → Int32 → Int32 → Int32 → Int32 → Int32 → xH → Option (Int32 × xH)} (hk5 : ∀ {u5 : Value} {u6 : Value} {u7 : Value} {o0 : Option Nat} {x1 : Int32} {x2 : Int32} {x3 : Int32} {x4 : Int32} {h : xH} {r : (Int32 × xH)}, u5.category = 1 → u6.category = 1 → u7.category = 1 → k5 o0 x1 x2 x3 x4 h = some r → xEv (xTa xs) d 185 (5, [xrv o0, .int x1, .int x2, .int x3, .int x4, u5, u6, u7], [], h) (some (.int r.1), r.2)) (hk57 : ∀ {o0 : Option Nat} {x1 : Int32} {x2 : Int32} {x3 : Int32} {x4 : Int32} {x5 : Int32} {x6 : Int32} {x7 : Int32} {h : xH} {r : (Int32 × xH)}, k57 o0 x1 x2 x3 x4 x5 x6 x7 h = some r → xEv (xTa xs) d 185 (57, [xrv o0, .int x1, .int x2, .int x3, .int x4, .int x5, .int x6, .int x7], [], h) (some (.int r.1), r.2)) {o0 : Option Nat} {x1 : Int32} {x2 : Int32} {x3 : Int32} {x4 : Int32} {x5 : Int32} {x6 : Int32} {x7 : Int32} {s0 : Int32} {h : xH} {r : (Int32 × xH)} (hf : j185_98 k5 k57 o0 x1 x2 x3 x4 x5 x6 x7 s0 h = some r) : xEv (xTa xs) d 185 (98, [xrv o0, .int x1, .int x2, .int x3, .int x4, .int x5, .int x6, .int x7], [.int s0], h) (some (.int r.1), r.2) := by
  unfold j185_98 at hf
  refine sh_istore (i' := 6) (n := 2) i185_98 (Or.inl rfl) (xokst_of (Nat.le_of_ble_eq_true rfl) rfl) ?_
  refine sh_inc (i' := 7) i185_100 rfl (xokst_of (Nat.le_of_ble_eq_true rfl) rfl) rfl ?_
  refine sh_goto (t := 57) i185_103 rfl ?_
  exact hk57 hf
def l185_57 (k5 : Option Nat → Int32 → Int32 → Int32 → Int32 → xH → Option (Int32 × xH)) : Nat → Option Nat → Int32 → Int32 → Int32 → Int32 → Int32 → Int32 → Int32 → xH → Option (Int32 × xH)
  | 0 => fun _ _ _ _ _ _ _ _ _ => none
  | n + 1 => fun o0 x1 x2 x3 x4 x5 x6 x7 h => (if x2 ≤ x7 then j185_106 k5 o0 x1 x2 x3 x4 x5 x6 x7 h else (if x6 = 0 then j185_106 k5 o0 x1 x2 x3 x4 x5 x6 x7 h else (xgR h o0 11 21).bind fun a_3 => (xaI h 13 a_3 x5).bind fun v_4 => (xcv h o0 11).bind fun _ => (fn167 o0 (v_4 + x7) h).bind fun r_5 => (xcv r_5.2 o0 11).bind fun _ => (fn167 o0 (x1 + x7) r_5.2).bind fun r_6 => (if r_5.1 = r_6.1 then j185_98 k5 (l185_57 k5 n) o0 x1 x2 x3 x4 x5 x6 x7 1 r_6.2 else j185_98 k5 (l185_57 k5 n) o0 x1 x2 x3 x4 x5 x6 x7 0 r_6.2)))
theorem l185_57_ok {xs : List Int32} {d : Nat} (hd : 2 ≤ d) {k5 : Option Nat → Int32 → Int32 → Int32 → Int32 → xH → Option (Int32 × xH)} (hk5 : ∀ {u5 : Value} {u6 : Value} {u7 : Value} {o0 : Option Nat} {x1 : Int32} {x2 : Int32} {x3 : Int32} {x4 : Int32} {h : xH} {r : (Int32 × xH)}, u5.category = 1 → u6.category = 1 → u7.category = 1 → k5 o0 x1 x2 x3 x4 h = some r → xEv (xTa xs) d 185 (5, [xrv o0, .int x1, .int x2, .int x3, .int x4, u5, u6, u7], [], h) (some (.int r.1), r.2)) : ∀ (n : Nat) {o0 : Option Nat} {x1 : Int32} {x2 : Int32} {x3 : Int32} {x4 : Int32} {x5 : Int32} {x6 : Int32} {x7 : Int32} {h : xH} {r : (Int32 × xH)}, l185_57 k5 n o0 x1 x2 x3 x4 x5 x6 x7 h = some r → xEv (xTa xs) d 185 (57, [xrv o0, .int x1, .int x2, .int x3, .int x4, .int x5, .int x6, .int x7], [], h) (some (.int r.1), r.2) := by
  intro n
  induction n with
  | zero => intros; rename_i hf; cases hf
  | succ n ih =>
    intro o0 x1 x2 x3 x4 x5 x6 x7 h r hf
    replace hf : ((if x2 ≤ x7 then j185_106 k5 o0 x1 x2 x3 x4 x5 x6 x7 h else (if x6 = 0 then j185_106 k5 o0 x1 x2 x3 x4 x5 x6 x7 h else (xgR h o0 11 21).bind fun a_3 => (xaI h 13 a_3 x5).bind fun v_4 => (xcv h o0 11).bind fun _ => (fn167 o0 (v_4 + x7) h).bind fun r_5 => (xcv r_5.2 o0 11).bind fun _ => (fn167 o0 (x1 + x7) r_5.2).bind fun r_6 => (if r_5.1 = r_6.1 then j185_98 k5 (l185_57 k5 n) o0 x1 x2 x3 x4 x5 x6 x7 1 r_6.2 else j185_98 k5 (l185_57 k5 n) o0 x1 x2 x3 x4 x5 x6 x7 0 r_6.2)))) = some r := hf
    refine ev_do i185_57 rfl ?_
    refine ev_do i185_59 rfl ?_
    refine ev_icmp (t := 106) i185_60 rfl (fun c_1 => ?_) (fun c_1 => ?_)
    · replace hf := x_pos (show x2 ≤ x7 from c_1) hf
      exact j185_106_ok hd hk5 hf
    · replace hf := x_neg (show ¬ x2 ≤ x7 from c_1) hf
      refine ev_do i185_63 rfl ?_
      refine ev_if (t := 106) i185_65 rfl (fun c_2 => ?_) (fun c_2 => ?_)
      · replace hf := x_pos (show x6 = 0 from c_2) hf
        exact j185_106_ok hd hk5 hf
      · replace hf := x_neg (show ¬ x6 = 0 from c_2) hf
        refine sh_aload (i' := 0) (n := 1) i185_68 (Or.inr ⟨rfl, by decide⟩) rfl ?_
        refine sh_aload (i' := 0) (n := 1) i185_69 (Or.inr ⟨rfl, by decide⟩) rfl ?_
        obtain ⟨a_3, ea_3, hf⟩ := x_bind hf
        refine sh_getR i185_70 f185_68 ea_3 ?_
        refine ev_do i185_73 rfl ?_
        obtain ⟨v_4, ev_4, hf⟩ := x_bind hf
        refine sh_aldI (tg := 13) i185_75 (Or.inl ⟨rfl, rfl⟩) ev_4 ?_
        refine ev_do i185_76 rfl ?_
        refine ev_do i185_78 rfl ?_
        obtain ⟨_, eu_9, hf⟩ := x_bind hf
        obtain ⟨r_5, er_5, hf⟩ := x_bind hf
        refine sh_inv (as := [.int (v_4 + x7)]) (z := (some (.int r_5.1), r_5.2)) i185_79 v185_227 (Or.inl ⟨by decide, rfl⟩) m167 rfl (Nat.le_of_ble_eq_true rfl) eu_9 (fn167_call (by omega) er_5) ?_
        refine sh_aload (i' := 0) (n := 1) i185_82 (Or.inr ⟨rfl, by decide⟩) rfl ?_
        refine ev_do i185_83 rfl ?_
        refine ev_do i185_84 rfl ?_
        refine ev_do i185_86 rfl ?_
        obtain ⟨_, eu_8, hf⟩ := x_bind hf
        obtain ⟨r_6, er_6, hf⟩ := x_bind hf
        refine sh_inv (as := [.int (x1 + x7)]) (z := (some (.int r_6.1), r_6.2)) i185_87 v185_227 (Or.inl ⟨by decide, rfl⟩) m167 rfl (Nat.le_of_ble_eq_true rfl) eu_8 (fn167_call (by omega) er_6) ?_
        refine ev_icmp (t := 97) i185_90 rfl (fun c_7 => ?_) (fun c_7 => ?_)
        · replace hf := x_neg (show ¬ r_5.1 = r_6.1 from c_7) hf
          refine ev_do i185_97 rfl ?_
          exact j185_98_ok hd hk5 ih hf
        · replace hf := x_pos (show r_5.1 = r_6.1 from Decidable.byContradiction (fun h9 => c_7 h9)) hf
          refine ev_do i185_93 rfl ?_
          refine sh_goto (t := 98) i185_94 rfl ?_
          exact j185_98_ok hd hk5 ih hf
def j185_52 (k5 : Option Nat → Int32 → Int32 → Int32 → Int32 → xH → Option (Int32 × xH)) (o0 : Option Nat) (x1 : Int32) (x2 : Int32) (x3 : Int32) (x4 : Int32) (x5 : Int32) (s0 : Int32) (h : xH) : Option (Int32 × xH) := l185_57 k5 xFuel o0 x1 x2 x3 x4 x5 s0 0 h
theorem j185_52_ok {xs : List Int32} {d : Nat} (hd : 2 ≤ d) {k5 : Option Nat → Int32 → Int32 → Int32 → Int32 → xH → Option (Int32 × xH)} (hk5 : ∀ {u5 : Value} {u6 : Value} {u7 : Value} {o0 : Option Nat} {x1 : Int32} {x2 : Int32} {x3 : Int32} {x4 : Int32} {h : xH} {r : (Int32 × xH)}, u5.category = 1 → u6.category = 1 → u7.category = 1 → k5 o0 x1 x2 x3 x4 h = some r → xEv (xTa xs) d 185 (5, [xrv o0, .int x1, .int x2, .int x3, .int x4, u5, u6, u7], [], h) (some (.int r.1), r.2)) {u6 : Value} {u7 : Value} {o0 : Option Nat} {x1 : Int32} {x2 : Int32} {x3 : Int32} {x4 : Int32} {x5 : Int32} {s0 : Int32} {h : xH} {r : (Int32 × xH)} (hu6 : u6.category = 1) (hu7 : u7.category = 1) (hf : j185_52 k5 o0 x1 x2 x3 x4 x5 s0 h = some r) : xEv (xTa xs) d 185 (52, [xrv o0, .int x1, .int x2, .int x3, .int x4, .int x5, u6, u7], [.int s0], h) (some (.int r.1), r.2) := by
  unfold j185_52 at hf
  refine sh_istore (i' := 6) (n := 2) i185_52 (Or.inl rfl) (xokst_of (Nat.le_of_ble_eq_true rfl) rfl) ?_
  refine ev_do i185_54 rfl ?_
  refine sh_istore (i' := 7) (n := 2) i185_55 (Or.inl rfl) (xokst_of (Nat.le_of_ble_eq_true rfl) rfl) ?_
  exact l185_57_ok hd hk5 xFuel hf
def j185_51 (k5 : Option Nat → Int32 → Int32 → Int32 → Int32 → xH → Option (Int32 × xH)) (o0 : Option Nat) (x1 : Int32) (x2 : Int32) (x3 : Int32) (x4 : Int32) (x5 : Int32) (h : xH) : Option (Int32 × xH) := j185_52 k5 o0 x1 x2 x3 x4 x5 0 h
theorem j185_51_ok {xs : List Int32} {d : Nat} (hd : 2 ≤ d) {k5 : Option Nat → Int32 → Int32 → Int32 → Int32 → xH → Option (Int32 × xH)} (hk5 : ∀ {u5 : Value} {u6 : Value} {u7 : Value} {o0 : Option Nat} {x1 : Int32} {x2 : Int32} {x3 : Int32} {x4 : Int32} {h : xH} {r : (Int32 × xH)}, u5.category = 1 → u6.category = 1 → u7.category = 1 → k5 o0 x1 x2 x3 x4 h = some r → xEv (xTa xs) d 185 (5, [xrv o0, .int x1, .int x2, .int x3, .int x4, u5, u6, u7], [], h) (some (.int r.1), r.2)) {u6 : Value} {u7 : Value} {o0 : Option Nat} {x1 : Int32} {x2 : Int32} {x3 : Int32} {x4 : Int32} {x5 : Int32} {h : xH} {r : (Int32 × xH)} (hu6 : u6.category = 1) (hu7 : u7.category = 1) (hf : j185_51 k5 o0 x1 x2 x3 x4 x5 h = some r) : xEv (xTa xs) d 185 (51, [xrv o0, .int x1, .int x2, .int x3, .int x4, .int x5, u6, u7], [], h) (some (.int r.1), r.2) := by
  unfold j185_51 at hf
  refine ev_do i185_51 rfl ?_
  exact j185_52_ok hd hk5 hu6 hu7 hf
def l185_5  : Nat → Option Nat → Int32 → Int32 → Int32 → Int32 → xH → Option (Int32 × xH)
  | 0 => fun _ _ _ _ _ _ => none
  | n + 1 => fun o0 x1 x2 x3 x4 h => (xgR h o0 11 14).bind fun a_1 => (xaI h 13 a_1 40).bind fun v_2 => (if v_2 ≤ x4 then (if x3 &&& 1 = x3 then some (x3, h) else none) else (xgR h o0 11 16).bind fun a_5 => (xaI h 13 a_5 (960 + x4)).bind fun v_6 => (if v_6 = 2 then (xgR h o0 11 22).bind fun a_8 => (xaI h 13 a_8 (960 + x4)).bind fun v_9 => (if v_9 = x2 then j185_52 (l185_5 n) o0 x1 x2 x3 x4 (960 + x4) 1 h else j185_51 (l185_5 n) o0 x1 x2 x3 x4 (960 + x4) h) else j185_51 (l185_5 n) o0 x1 x2 x3 x4 (960 + x4) h))
theorem l185_5_ok {xs : List Int32} {d : Nat} (hd : 2 ≤ d) : ∀ (n : Nat) {u5 : Value} {u6 : Value} {u7 : Value} {o0 : Option Nat} {x1 : Int32} {x2 : Int32} {x3 : Int32} {x4 : Int32} {h : xH} {r : (Int32 × xH)} (hu5 : u5.category = 1) (hu6 : u6.category = 1) (hu7 : u7.category = 1), l185_5 n o0 x1 x2 x3 x4 h = some r → xEv (xTa xs) d 185 (5, [xrv o0, .int x1, .int x2, .int x3, .int x4, u5, u6, u7], [], h) (some (.int r.1), r.2) := by
  intro n
  induction n with
  | zero => intros; rename_i hf; cases hf
  | succ n ih =>
    intro u5 u6 u7 o0 x1 x2 x3 x4 h r hu5 hu6 hu7 hf
    replace hf : ((xgR h o0 11 14).bind fun a_1 => (xaI h 13 a_1 40).bind fun v_2 => (if v_2 ≤ x4 then (if x3 &&& 1 = x3 then some (x3, h) else none) else (xgR h o0 11 16).bind fun a_5 => (xaI h 13 a_5 (960 + x4)).bind fun v_6 => (if v_6 = 2 then (xgR h o0 11 22).bind fun a_8 => (xaI h 13 a_8 (960 + x4)).bind fun v_9 => (if v_9 = x2 then j185_52 (l185_5 n) o0 x1 x2 x3 x4 (960 + x4) 1 h else j185_51 (l185_5 n) o0 x1 x2 x3 x4 (960 + x4) h) else j185_51 (l185_5 n) o0 x1 x2 x3 x4 (960 + x4) h))) = some r := hf
    refine ev_do i185_5 rfl ?_
    refine sh_aload (i' := 0) (n := 1) i185_7 (Or.inr ⟨rfl, by decide⟩) rfl ?_
    obtain ⟨a_1, ea_1, hf⟩ := x_bind hf
    refine sh_getR i185_8 f185_47 ea_1 ?_
    refine ev_do i185_11 rfl ?_
    obtain ⟨v_2, ev_2, hf⟩ := x_bind hf
    refine sh_aldI (tg := 13) i185_13 (Or.inl ⟨rfl, rfl⟩) ev_2 ?_
    refine ev_icmp (t := 127) i185_14 rfl (fun c_3 => ?_) (fun c_3 => ?_)
    · replace hf := x_pos (show v_2 ≤ x4 from c_3) hf
      refine ev_do i185_127 rfl ?_
      by_cases c_4 : x3 &&& 1 = x3
      · replace hf := x_pos c_4 hf
        obtain rfl := Option.some.inj hf
        exact sh_iret i185_128 m185 rfl (congrArg Value.int c_4)
      · replace hf := x_neg c_4 hf
        cases hf
    · replace hf := x_neg (show ¬ v_2 ≤ x4 from c_3) hf
      refine ev_do i185_17 rfl ?_
      refine ev_do i185_20 rfl ?_
      refine ev_do i185_22 rfl ?_
      refine sh_istore (i' := 5) (n := 2) i185_23 (Or.inl rfl) (xokst_of (Nat.le_of_ble_eq_true rfl) rfl) ?_
      refine sh_aload (i' := 0) (n := 1) i185_25 (Or.inr ⟨rfl, by decide⟩) rfl ?_
      obtain ⟨a_5, ea_5, hf⟩ := x_bind hf
      refine sh_getR i185_26 f185_53 ea_5 ?_
      refine ev_do i185_29 rfl ?_
      obtain ⟨v_6, ev_6, hf⟩ := x_bind hf
      refine sh_aldI (tg := 13) i185_31 (Or.inl ⟨rfl, rfl⟩) ev_6 ?_
      refine ev_do i185_32 rfl ?_
      refine ev_icmp (t := 51) i185_33 rfl (fun c_7 => ?_) (fun c_7 => ?_)
      · replace hf := x_neg (show ¬ v_6 = 2 from c_7) hf
        exact j185_51_ok hd ih hu6 hu7 hf
      · replace hf := x_pos (show v_6 = 2 from Decidable.byContradiction (fun h9 => c_7 h9)) hf
        refine sh_aload (i' := 0) (n := 1) i185_36 (Or.inr ⟨rfl, by decide⟩) rfl ?_
        obtain ⟨a_8, ea_8, hf⟩ := x_bind hf
        refine sh_getR i185_37 f185_71 ea_8 ?_
        refine ev_do i185_40 rfl ?_
        obtain ⟨v_9, ev_9, hf⟩ := x_bind hf
        refine sh_aldI (tg := 13) i185_42 (Or.inl ⟨rfl, rfl⟩) ev_9 ?_
        refine ev_do i185_43 rfl ?_
        refine ev_icmp (t := 51) i185_44 rfl (fun c_10 => ?_) (fun c_10 => ?_)
        · replace hf := x_neg (show ¬ v_9 = x2 from c_10) hf
          exact j185_51_ok hd ih hu6 hu7 hf
        · replace hf := x_pos (show v_9 = x2 from Decidable.byContradiction (fun h9 => c_10 h9)) hf
          refine ev_do i185_47 rfl ?_
          refine sh_goto (t := 52) i185_48 rfl ?_
          exact j185_52_ok hd ih hu6 hu7 hf
def fn185 (o0 : Option Nat) (x1 : Int32) (x2 : Int32) (h : xH) : Option (Int32 × xH) := l185_5 xFuel o0 x1 x2 0 0 h
theorem fn185_call {xs : List Int32} {d : Nat} (hd : 3 ≤ d) {o0 : Option Nat} {x1 : Int32} {x2 : Int32} {h : xH} {r : (Int32 × xH)} (hf : fn185 o0 x1 x2 h = some r) : xCall (xTa xs) d 185 [xrv o0, .int x1, .int x2] h (some (.int r.1), r.2) := by
  obtain ⟨d, rfl⟩ : ∃ d2, d = d2 + 1 := ⟨d - 1, by omega⟩
  replace hd : 2 ≤ d := by omega
  refine call_of2 (fl := [xrv o0, .int x1, .int x2]) (Ls := [xrv o0, .int x1, .int x2, .float 0, .float 0, .float 0, .float 0, .float 0]) m185 (by simp [xfl, xrv_cat, xc_i, xc_j, xc_a, xc_f]) (Nat.le_of_ble_eq_true rfl) rfl ?_
  unfold fn185 at hf
  refine ev_do i185_0 rfl ?_
  refine sh_istore (i' := 3) (n := 1) i185_1 (Or.inr ⟨rfl, by decide⟩) (xokst_of (Nat.le_of_ble_eq_true rfl) rfl) ?_
  refine ev_do i185_2 rfl ?_
  refine sh_istore (i' := 4) (n := 2) i185_3 (Or.inl rfl) (xokst_of (Nat.le_of_ble_eq_true rfl) rfl) ?_
  exact l185_5_ok hd xFuel rfl rfl rfl hf
end
