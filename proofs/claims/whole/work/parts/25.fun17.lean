section
def j177_198  (o0 : Option Nat) (x1 : Int32) (x2 : Int32) (h : xH) : Option xH := some h
theorem j177_198_ok {xs : List Int32} {d : Nat} (hd : 9 ≤ d) {u3 : Value} {o0 : Option Nat} {x1 : Int32} {x2 : Int32} {h : xH} {r : xH} (hu3 : u3.category = 1) (hf : j177_198 o0 x1 x2 h = some r) : xEv (xTa xs) d 177 (198, [xrv o0, .int x1, .int x2, u3], [], h) (none, r) := by
  unfold j177_198 at hf
  obtain rfl := Option.some.inj hf
  exact sh_vret i177_198 m177 rfl
def j177_185 (k84 : Option Nat → Int32 → Int32 → xH → Option xH) (o0 : Option Nat) (x1 : Int32) (x2 : Int32) (x3 : Int32) (s0 : Option Nat) (s1 : Int32) (h : xH) : Option xH := (xpF h s0 11 36 .boolean (.int s1)).bind fun h_1 => (xgI h_1 o0 11 37).bind fun v_2 => k84 o0 x1 (v_2 + 1) h_1
theorem j177_185_ok {xs : List Int32} {d : Nat} (hd : 9 ≤ d) {k84 : Option Nat → Int32 → Int32 → xH → Option xH} (hk84 : ∀ {u3 : Value} {o0 : Option Nat} {x1 : Int32} {x2 : Int32} {h : xH} {r : xH}, u3.category = 1 → k84 o0 x1 x2 h = some r → xEv (xTa xs) d 177 (84, [xrv o0, .int x1, .int x2, u3], [], h) (none, r)) {o0 : Option Nat} {x1 : Int32} {x2 : Int32} {x3 : Int32} {s0 : Option Nat} {s1 : Int32} {h : xH} {r : xH} (hf : j177_185 k84 o0 x1 x2 x3 s0 s1 h = some r) : xEv (xTa xs) d 177 (185, [xrv o0, .int x1, .int x2, .int x3], [.int s1, xrv s0], h) (none, r) := by
  unfold j177_185 at hf
  obtain ⟨h_1, eh_1, hf⟩ := x_bind hf
  refine sh_put i177_185 f177_282 (by decide) rfl eh_1 ?_
  refine sh_aload (i' := 0) (n := 1) i177_188 (Or.inr ⟨rfl, by decide⟩) rfl ?_
  obtain ⟨v_2, ev_2, hf⟩ := x_bind hf
  refine sh_getI i177_189 f177_224 ev_2 ?_
  refine ev_do i177_192 rfl ?_
  refine ev_do i177_193 rfl ?_
  refine sh_istore (i' := 2) (n := 1) i177_194 (Or.inr ⟨rfl, by decide⟩) (xokst_of (Nat.le_of_ble_eq_true rfl) rfl) ?_
  refine sh_goto (t := 84) i177_195 rfl ?_
  exact hk84 rfl hf
def j177_171 (k84 : Option Nat → Int32 → Int32 → xH → Option xH) (o0 : Option Nat) (x1 : Int32) (x2 : Int32) (x3 : Int32) (h : xH) : Option xH := (xgI h o0 11 37).bind fun v_1 => (if x3 = v_1 then j177_185 k84 o0 x1 x2 x3 o0 1 h else j177_185 k84 o0 x1 x2 x3 o0 0 h)
theorem j177_171_ok {xs : List Int32} {d : Nat} (hd : 9 ≤ d) {k84 : Option Nat → Int32 → Int32 → xH → Option xH} (hk84 : ∀ {u3 : Value} {o0 : Option Nat} {x1 : Int32} {x2 : Int32} {h : xH} {r : xH}, u3.category = 1 → k84 o0 x1 x2 h = some r → xEv (xTa xs) d 177 (84, [xrv o0, .int x1, .int x2, u3], [], h) (none, r)) {o0 : Option Nat} {x1 : Int32} {x2 : Int32} {x3 : Int32} {h : xH} {r : xH} (hf : j177_171 k84 o0 x1 x2 x3 h = some r) : xEv (xTa xs) d 177 (171, [xrv o0, .int x1, .int x2, .int x3], [], h) (none, r) := by
  unfold j177_171 at hf
  refine sh_aload (i' := 0) (n := 1) i177_171 (Or.inr ⟨rfl, by decide⟩) rfl ?_
  refine ev_do i177_172 rfl ?_
  refine sh_aload (i' := 0) (n := 1) i177_173 (Or.inr ⟨rfl, by decide⟩) rfl ?_
  obtain ⟨v_1, ev_1, hf⟩ := x_bind hf
  refine sh_getI i177_174 f177_224 ev_1 ?_
  refine ev_icmp (t := 184) i177_177 rfl (fun c_2 => ?_) (fun c_2 => ?_)
  · replace hf := x_neg (show ¬ x3 = v_1 from c_2) hf
    refine ev_do i177_184 rfl ?_
    exact j177_185_ok hd hk84 hf
  · replace hf := x_pos (show x3 = v_1 from Decidable.byContradiction (fun h9 => c_2 h9)) hf
    refine ev_do i177_180 rfl ?_
    refine sh_goto (t := 185) i177_181 rfl ?_
    exact j177_185_ok hd hk84 hf
def l177_84  : Nat → Option Nat → Int32 → Int32 → xH → Option xH
  | 0 => fun _ _ _ _ => none
  | n + 1 => fun o0 x1 x2 h => (if x1 ≤ x2 then j177_198 o0 x1 x2 h else (xgI h o0 11 31).bind fun v_2 => (if v_2 = 0 then (xcv h o0 11).bind fun _ => (fn178 o0 x2 x1 h).bind fun r_4 => (xpF r_4.2 o0 11 37 .int (.int r_4.1)).bind fun h_5 => (xcv h_5 o0 11).bind fun _ => (fn169 o0 x2 h_5).bind fun r_6 => (xgI r_6.2 o0 11 37).bind fun v_7 => (if r_6.1 = v_7 then (xpF r_6.2 o0 11 36 .boolean (.int 1)).bind fun h_9 => j177_171 (l177_84 n) o0 x1 x2 r_6.1 h_9 else (xcv r_6.2 o0 11).bind fun _ => (fn167 o0 r_6.1 r_6.2).bind fun r_10 => (if r_10.1 = 64 then (xcv r_10.2 o0 11).bind fun _ => (fn187 o0 r_6.1 r_10.2).bind fun h_12 => j177_171 (l177_84 n) o0 x1 x2 r_6.1 h_12 else (xcv r_10.2 o0 11).bind fun _ => (fn179 o0 r_6.1 r_10.2).bind fun r_14 => (if r_14.1 = 0 then (xcv r_14.2 o0 11).bind fun _ => (fn181 o0 r_6.1 x1 r_14.2).bind fun h_16 => j177_171 (l177_84 n) o0 x1 x2 r_6.1 h_16 else (xcv r_14.2 o0 11).bind fun _ => (fn180 o0 r_6.1 (r_6.1 - x2) r_14.2).bind fun h_18 => j177_171 (l177_84 n) o0 x1 x2 r_6.1 h_18))) else j177_198 o0 x1 x2 h))
theorem l177_84_ok {xs : List Int32} {d : Nat} (hd : 9 ≤ d) : ∀ (n : Nat) {u3 : Value} {o0 : Option Nat} {x1 : Int32} {x2 : Int32} {h : xH} {r : xH} (hu3 : u3.category = 1), l177_84 n o0 x1 x2 h = some r → xEv (xTa xs) d 177 (84, [xrv o0, .int x1, .int x2, u3], [], h) (none, r) := by
  intro n
  induction n with
  | zero => intros; rename_i hf; cases hf
  | succ n ih =>
    intro u3 o0 x1 x2 h r hu3 hf
    replace hf : ((if x1 ≤ x2 then j177_198 o0 x1 x2 h else (xgI h o0 11 31).bind fun v_2 => (if v_2 = 0 then (xcv h o0 11).bind fun _ => (fn178 o0 x2 x1 h).bind fun r_4 => (xpF r_4.2 o0 11 37 .int (.int r_4.1)).bind fun h_5 => (xcv h_5 o0 11).bind fun _ => (fn169 o0 x2 h_5).bind fun r_6 => (xgI r_6.2 o0 11 37).bind fun v_7 => (if r_6.1 = v_7 then (xpF r_6.2 o0 11 36 .boolean (.int 1)).bind fun h_9 => j177_171 (l177_84 n) o0 x1 x2 r_6.1 h_9 else (xcv r_6.2 o0 11).bind fun _ => (fn167 o0 r_6.1 r_6.2).bind fun r_10 => (if r_10.1 = 64 then (xcv r_10.2 o0 11).bind fun _ => (fn187 o0 r_6.1 r_10.2).bind fun h_12 => j177_171 (l177_84 n) o0 x1 x2 r_6.1 h_12 else (xcv r_10.2 o0 11).bind fun _ => (fn179 o0 r_6.1 r_10.2).bind fun r_14 => (if r_14.1 = 0 then (xcv r_14.2 o0 11).bind fun _ => (fn181 o0 r_6.1 x1 r_14.2).bind fun h_16 => j177_171 (l177_84 n) o0 x1 x2 r_6.1 h_16 else (xcv r_14.2 o0 11).bind fun _ => (fn180 o0 r_6.1 (r_6.1 - x2) r_14.2).bind fun h_18 => j177_171 (l177_84 n) o0 x1 x2 r_6.1 h_18))) else j177_198 o0 x1 x2 h))) = some r := hf
    refine ev_do i177_84 rfl ?_
    refine ev_do i177_85 rfl ?_
    refine ev_icmp (t := 198) i177_86 rfl (fun c_1 => ?_) (fun c_1 => ?_)
    · replace hf := x_pos (show x1 ≤ x2 from c_1) hf
      exact j177_198_ok hd hu3 hf
    · replace hf := x_neg (show ¬ x1 ≤ x2 from c_1) hf
      refine sh_aload (i' := 0) (n := 1) i177_89 (Or.inr ⟨rfl, by decide⟩) rfl ?_
      obtain ⟨v_2, ev_2, hf⟩ := x_bind hf
      refine sh_getI i177_90 f177_218 ev_2 ?_
      refine ev_if (t := 198) i177_93 rfl (fun c_3 => ?_) (fun c_3 => ?_)
      · replace hf := x_neg (show ¬ v_2 = 0 from c_3) hf
        exact j177_198_ok hd hu3 hf
      · replace hf := x_pos (show v_2 = 0 from Decidable.byContradiction (fun h9 => c_3 h9)) hf
        refine sh_aload (i' := 0) (n := 1) i177_96 (Or.inr ⟨rfl, by decide⟩) rfl ?_
        refine sh_aload (i' := 0) (n := 1) i177_97 (Or.inr ⟨rfl, by decide⟩) rfl ?_
        refine ev_do i177_98 rfl ?_
        refine ev_do i177_99 rfl ?_
        obtain ⟨_, eu_23, hf⟩ := x_bind hf
        obtain ⟨r_4, er_4, hf⟩ := x_bind hf
        refine sh_inv (as := [.int x1, .int x2]) (z := (some (.int r_4.1), r_4.2)) i177_100 v177_285 (Or.inl ⟨by decide, rfl⟩) m178 rfl (by simp [xcat, xrv_cat, xc_i, xc_j, xc_a, xc_f]) eu_23 (fn178_call (by omega) er_4) ?_
        obtain ⟨h_5, eh_5, hf⟩ := x_bind hf
        refine sh_put i177_103 f177_224 (by decide) rfl eh_5 ?_
        refine sh_aload (i' := 0) (n := 1) i177_106 (Or.inr ⟨rfl, by decide⟩) rfl ?_
        refine ev_do i177_107 rfl ?_
        obtain ⟨_, eu_22, hf⟩ := x_bind hf
        obtain ⟨r_6, er_6, hf⟩ := x_bind hf
        refine sh_inv (as := [.int x2]) (z := (some (.int r_6.1), r_6.2)) i177_108 v177_255 (Or.inl ⟨by decide, rfl⟩) m169 rfl (Nat.le_of_ble_eq_true rfl) eu_22 (fn169_call (by omega) er_6) ?_
        refine sh_istore (i' := 3) (n := 1) i177_111 (Or.inr ⟨rfl, by decide⟩) (xokst_of (Nat.le_of_ble_eq_true rfl) rfl) ?_
        refine ev_do i177_112 rfl ?_
        refine sh_aload (i' := 0) (n := 1) i177_113 (Or.inr ⟨rfl, by decide⟩) rfl ?_
        obtain ⟨v_7, ev_7, hf⟩ := x_bind hf
        refine sh_getI i177_114 f177_224 ev_7 ?_
        refine ev_icmp (t := 128) i177_117 rfl (fun c_8 => ?_) (fun c_8 => ?_)
        · replace hf := x_neg (show ¬ r_6.1 = v_7 from c_8) hf
          refine sh_aload (i' := 0) (n := 1) i177_128 (Or.inr ⟨rfl, by decide⟩) rfl ?_
          refine ev_do i177_129 rfl ?_
          obtain ⟨_, eu_21, hf⟩ := x_bind hf
          obtain ⟨r_10, er_10, hf⟩ := x_bind hf
          refine sh_inv (as := [.int r_6.1]) (z := (some (.int r_10.1), r_10.2)) i177_130 v177_227 (Or.inl ⟨by decide, rfl⟩) m167 rfl (Nat.le_of_ble_eq_true rfl) eu_21 (fn167_call (by omega) er_10) ?_
          refine ev_do i177_133 rfl ?_
          refine ev_icmp (t := 146) i177_135 rfl (fun c_11 => ?_) (fun c_11 => ?_)
          · replace hf := x_neg (show ¬ r_10.1 = 64 from c_11) hf
            refine sh_aload (i' := 0) (n := 1) i177_146 (Or.inr ⟨rfl, by decide⟩) rfl ?_
            refine ev_do i177_147 rfl ?_
            obtain ⟨_, eu_20, hf⟩ := x_bind hf
            obtain ⟨r_14, er_14, hf⟩ := x_bind hf
            refine sh_inv (as := [.int r_6.1]) (z := (some (.int r_14.1), r_14.2)) i177_148 v177_292 (Or.inl ⟨by decide, rfl⟩) m179 rfl (Nat.le_of_ble_eq_true rfl) eu_20 (fn179_call (by omega) er_14) ?_
            refine ev_if (t := 165) i177_151 rfl (fun c_15 => ?_) (fun c_15 => ?_)
            · replace hf := x_pos (show r_14.1 = 0 from c_15) hf
              refine sh_aload (i' := 0) (n := 1) i177_165 (Or.inr ⟨rfl, by decide⟩) rfl ?_
              refine ev_do i177_166 rfl ?_
              refine ev_do i177_167 rfl ?_
              obtain ⟨_, eu_17, hf⟩ := x_bind hf
              obtain ⟨h_16, eh_16, hf⟩ := x_bind hf
              refine sh_inv (as := [.int x1, .int r_6.1]) (z := (none, h_16)) i177_168 v177_298 (Or.inl ⟨by decide, rfl⟩) m181 rfl (Nat.le_of_ble_eq_true rfl) eu_17 (fn181_call (by omega) eh_16) ?_
              exact j177_171_ok hd ih hf
            · replace hf := x_neg (show ¬ r_14.1 = 0 from c_15) hf
              refine sh_aload (i' := 0) (n := 1) i177_154 (Or.inr ⟨rfl, by decide⟩) rfl ?_
              refine ev_do i177_155 rfl ?_
              refine ev_do i177_156 rfl ?_
              refine ev_do i177_157 rfl ?_
              refine ev_do i177_158 rfl ?_
              obtain ⟨_, eu_19, hf⟩ := x_bind hf
              obtain ⟨h_18, eh_18, hf⟩ := x_bind hf
              refine sh_inv (as := [.int (r_6.1 - x2), .int r_6.1]) (z := (none, h_18)) i177_159 v177_295 (Or.inl ⟨by decide, rfl⟩) m180 rfl (Nat.le_of_ble_eq_true rfl) eu_19 (fn180_call (by omega) eh_18) ?_
              refine sh_goto (t := 171) i177_162 rfl ?_
              exact j177_171_ok hd ih hf
          · replace hf := x_pos (show r_10.1 = 64 from Decidable.byContradiction (fun h9 => c_11 h9)) hf
            refine sh_aload (i' := 0) (n := 1) i177_138 (Or.inr ⟨rfl, by decide⟩) rfl ?_
            refine ev_do i177_139 rfl ?_
            obtain ⟨_, eu_13, hf⟩ := x_bind hf
            obtain ⟨h_12, eh_12, hf⟩ := x_bind hf
            refine sh_inv (as := [.int r_6.1]) (z := (none, h_12)) i177_140 v177_289 (Or.inl ⟨by decide, rfl⟩) m187 rfl (Nat.le_of_ble_eq_true rfl) eu_13 (fn187_call (by omega) eh_12) ?_
            refine sh_goto (t := 171) i177_143 rfl ?_
            exact j177_171_ok hd ih hf
        · replace hf := x_pos (show r_6.1 = v_7 from Decidable.byContradiction (fun h9 => c_8 h9)) hf
          refine sh_aload (i' := 0) (n := 1) i177_120 (Or.inr ⟨rfl, by decide⟩) rfl ?_
          refine ev_do i177_121 rfl ?_
          obtain ⟨h_9, eh_9, hf⟩ := x_bind hf
          refine sh_put i177_122 f177_282 (by decide) rfl eh_9 ?_
          refine sh_goto (t := 171) i177_125 rfl ?_
          exact j177_171_ok hd ih hf
def j177_82  (o0 : Option Nat) (x1 : Int32) (x2 : Int32) (h : xH) : Option xH := l177_84 xFuel o0 x1 0 h
theorem j177_82_ok {xs : List Int32} {d : Nat} (hd : 9 ≤ d) {u3 : Value} {o0 : Option Nat} {x1 : Int32} {x2 : Int32} {h : xH} {r : xH} (hu3 : u3.category = 1) (hf : j177_82 o0 x1 x2 h = some r) : xEv (xTa xs) d 177 (82, [xrv o0, .int x1, .int x2, u3], [], h) (none, r) := by
  unfold j177_82 at hf
  refine ev_do i177_82 rfl ?_
  refine sh_istore (i' := 2) (n := 1) i177_83 (Or.inr ⟨rfl, by decide⟩) (xokst_of (Nat.le_of_ble_eq_true rfl) rfl) ?_
  exact l177_84_ok hd xFuel hu3 hf
def j177_76 (k33 : Option Nat → Int32 → Int32 → xH → Option xH) (o0 : Option Nat) (x1 : Int32) (x2 : Int32) (h : xH) : Option xH := k33 o0 x1 (x2 + 1) h
theorem j177_76_ok {xs : List Int32} {d : Nat} (hd : 9 ≤ d) {k33 : Option Nat → Int32 → Int32 → xH → Option xH} (hk33 : ∀ {u3 : Value} {o0 : Option Nat} {x1 : Int32} {x2 : Int32} {h : xH} {r : xH}, u3.category = 1 → k33 o0 x1 x2 h = some r → xEv (xTa xs) d 177 (33, [xrv o0, .int x1, .int x2, u3], [], h) (none, r)) {u3 : Value} {o0 : Option Nat} {x1 : Int32} {x2 : Int32} {h : xH} {r : xH} (hu3 : u3.category = 1) (hf : j177_76 k33 o0 x1 x2 h = some r) : xEv (xTa xs) d 177 (76, [xrv o0, .int x1, .int x2, u3], [], h) (none, r) := by
  unfold j177_76 at hf
  refine sh_inc (i' := 2) i177_76 rfl (xokst_of (Nat.le_of_ble_eq_true rfl) rfl) rfl ?_
  refine sh_goto (t := 33) i177_79 rfl ?_
  exact hk33 hu3 hf
def l177_33  : Nat → Option Nat → Int32 → Int32 → xH → Option xH
  | 0 => fun _ _ _ _ => none
  | n + 1 => fun o0 x1 x2 h => (if x1 ≤ x2 then j177_82 o0 x1 x2 h else (xgI h o0 11 31).bind fun v_2 => (if v_2 = 0 then (xcv h o0 11).bind fun _ => (fn167 o0 x2 h).bind fun r_4 => (if r_4.1 = 10 then j177_76 (l177_33 n) o0 x1 x2 r_4.2 else (xcv r_4.2 o0 11).bind fun _ => (fn167 o0 x2 r_4.2).bind fun r_6 => (fn141 r_6.1 32 126 r_6.2).bind fun r_7 => (if r_7.1 = 0 then (xcv r_7.2 o0 11).bind fun _ => (fn166 o0 1 x2 r_7.2).bind fun h_9 => j177_76 (l177_33 n) o0 x1 x2 h_9 else j177_76 (l177_33 n) o0 x1 x2 r_7.2)) else j177_82 o0 x1 x2 h))
theorem l177_33_ok {xs : List Int32} {d : Nat} (hd : 9 ≤ d) : ∀ (n : Nat) {u3 : Value} {o0 : Option Nat} {x1 : Int32} {x2 : Int32} {h : xH} {r : xH} (hu3 : u3.category = 1), l177_33 n o0 x1 x2 h = some r → xEv (xTa xs) d 177 (33, [xrv o0, .int x1, .int x2, u3], [], h) (none, r) := by
  intro n
  induction n with
  | zero => intros; rename_i hf; cases hf
  | succ n ih =>
    intro u3 o0 x1 x2 h r hu3 hf
    replace hf : ((if x1 ≤ x2 then j177_82 o0 x1 x2 h else (xgI h o0 11 31).bind fun v_2 => (if v_2 = 0 then (xcv h o0 11).bind fun _ => (fn167 o0 x2 h).bind fun r_4 => (if r_4.1 = 10 then j177_76 (l177_33 n) o0 x1 x2 r_4.2 else (xcv r_4.2 o0 11).bind fun _ => (fn167 o0 x2 r_4.2).bind fun r_6 => (fn141 r_6.1 32 126 r_6.2).bind fun r_7 => (if r_7.1 = 0 then (xcv r_7.2 o0 11).bind fun _ => (fn166 o0 1 x2 r_7.2).bind fun h_9 => j177_76 (l177_33 n) o0 x1 x2 h_9 else j177_76 (l177_33 n) o0 x1 x2 r_7.2)) else j177_82 o0 x1 x2 h))) = some r := hf
    refine ev_do i177_33 rfl ?_
    refine ev_do i177_34 rfl ?_
    refine ev_icmp (t := 82) i177_35 rfl (fun c_1 => ?_) (fun c_1 => ?_)
    · replace hf := x_pos (show x1 ≤ x2 from c_1) hf
      exact j177_82_ok hd hu3 hf
    · replace hf := x_neg (show ¬ x1 ≤ x2 from c_1) hf
      refine sh_aload (i' := 0) (n := 1) i177_38 (Or.inr ⟨rfl, by decide⟩) rfl ?_
      obtain ⟨v_2, ev_2, hf⟩ := x_bind hf
      refine sh_getI i177_39 f177_218 ev_2 ?_
      refine ev_if (t := 82) i177_42 rfl (fun c_3 => ?_) (fun c_3 => ?_)
      · replace hf := x_neg (show ¬ v_2 = 0 from c_3) hf
        exact j177_82_ok hd hu3 hf
      · replace hf := x_pos (show v_2 = 0 from Decidable.byContradiction (fun h9 => c_3 h9)) hf
        refine sh_aload (i' := 0) (n := 1) i177_45 (Or.inr ⟨rfl, by decide⟩) rfl ?_
        refine ev_do i177_46 rfl ?_
        obtain ⟨_, eu_12, hf⟩ := x_bind hf
        obtain ⟨r_4, er_4, hf⟩ := x_bind hf
        refine sh_inv (as := [.int x2]) (z := (some (.int r_4.1), r_4.2)) i177_47 v177_227 (Or.inl ⟨by decide, rfl⟩) m167 rfl (Nat.le_of_ble_eq_true rfl) eu_12 (fn167_call (by omega) er_4) ?_
        refine ev_do i177_50 rfl ?_
        refine ev_icmp (t := 76) i177_52 rfl (fun c_5 => ?_) (fun c_5 => ?_)
        · replace hf := x_pos (show r_4.1 = 10 from c_5) hf
          exact j177_76_ok hd ih hu3 hf
        · replace hf := x_neg (show ¬ r_4.1 = 10 from c_5) hf
          refine sh_aload (i' := 0) (n := 1) i177_55 (Or.inr ⟨rfl, by decide⟩) rfl ?_
          refine ev_do i177_56 rfl ?_
          obtain ⟨_, eu_11, hf⟩ := x_bind hf
          obtain ⟨r_6, er_6, hf⟩ := x_bind hf
          refine sh_inv (as := [.int x2]) (z := (some (.int r_6.1), r_6.2)) i177_57 v177_227 (Or.inl ⟨by decide, rfl⟩) m167 rfl (Nat.le_of_ble_eq_true rfl) eu_11 (fn167_call (by omega) er_6) ?_
          refine ev_do i177_60 rfl ?_
          refine ev_do i177_62 rfl ?_
          obtain ⟨r_7, er_7, hf⟩ := x_bind hf
          refine ev_sta (as := [.int 126, .int 32, .int r_6.1]) (z := (some (.int r_7.1), r_7.2)) i177_64 v177_154 (Or.inl rfl) m141 rfl (Nat.le_of_ble_eq_true rfl) (fn141_call (by omega) er_7) ?_
          refine ev_if (t := 76) i177_67 rfl (fun c_8 => ?_) (fun c_8 => ?_)
          · replace hf := x_neg (show ¬ r_7.1 = 0 from c_8) hf
            exact j177_76_ok hd ih hu3 hf
          · replace hf := x_pos (show r_7.1 = 0 from Decidable.byContradiction (fun h9 => c_8 h9)) hf
            refine sh_aload (i' := 0) (n := 1) i177_70 (Or.inr ⟨rfl, by decide⟩) rfl ?_
            refine ev_do i177_71 rfl ?_
            refine ev_do i177_72 rfl ?_
            obtain ⟨_, eu_10, hf⟩ := x_bind hf
            obtain ⟨h_9, eh_9, hf⟩ := x_bind hf
            refine sh_inv (as := [.int x2, .int 1]) (z := (none, h_9)) i177_73 v177_267 (Or.inl ⟨by decide, rfl⟩) m166 rfl (Nat.le_of_ble_eq_true rfl) eu_10 (fn166_call (by omega) eh_9) ?_
            exact j177_76_ok hd ih hu3 hf
def fn177 (o0 : Option Nat) (x1 : Int32) (h : xH) : Option xH := (xpF h o0 11 31 .int (.int 0)).bind fun h_1 => (xgR h_1 o0 11 14).bind fun a_2 => (xaS h_1 13 (fun x => x) a_2 40 0).bind fun h_3 => (xgR h_3 o0 11 15).bind fun a_4 => (xaS h_3 13 (fun x => x) a_4 40 0).bind fun h_5 => (xpF h_5 o0 11 35 .boolean (.int 0)).bind fun h_6 => (xpF h_6 o0 11 36 .boolean (.int 1)).bind fun h_7 => l177_33 xFuel o0 x1 0 h_7
theorem fn177_call {xs : List Int32} {d : Nat} (hd : 10 ≤ d) {o0 : Option Nat} {x1 : Int32} {h : xH} {r : xH} (hf : fn177 o0 x1 h = some r) : xCall (xTa xs) d 177 [xrv o0, .int x1] h (none, r) := by
  obtain ⟨d, rfl⟩ : ∃ d2, d = d2 + 1 := ⟨d - 1, by omega⟩
  replace hd : 9 ≤ d := by omega
  refine call_of2 (fl := [xrv o0, .int x1]) (Ls := [xrv o0, .int x1, .float 0, .float 0]) m177 (by simp [xfl, xrv_cat, xc_i, xc_j, xc_a, xc_f]) (Nat.le_of_ble_eq_true rfl) rfl ?_
  unfold fn177 at hf
  refine sh_aload (i' := 0) (n := 1) i177_0 (Or.inr ⟨rfl, by decide⟩) rfl ?_
  refine ev_do i177_1 rfl ?_
  obtain ⟨h_1, eh_1, hf⟩ := x_bind hf
  refine sh_put i177_2 f177_218 (by decide) rfl eh_1 ?_
  refine sh_aload (i' := 0) (n := 1) i177_5 (Or.inr ⟨rfl, by decide⟩) rfl ?_
  obtain ⟨a_2, ea_2, hf⟩ := x_bind hf
  refine sh_getR i177_6 f177_47 ea_2 ?_
  refine ev_do i177_9 rfl ?_
  refine ev_do i177_11 rfl ?_
  obtain ⟨h_3, eh_3, hf⟩ := x_bind hf
  refine sh_ast (tg := 13) i177_12 (Or.inl ⟨rfl, rfl, rfl⟩) eh_3 ?_
  refine sh_aload (i' := 0) (n := 1) i177_13 (Or.inr ⟨rfl, by decide⟩) rfl ?_
  obtain ⟨a_4, ea_4, hf⟩ := x_bind hf
  refine sh_getR i177_14 f177_50 ea_4 ?_
  refine ev_do i177_17 rfl ?_
  refine ev_do i177_19 rfl ?_
  obtain ⟨h_5, eh_5, hf⟩ := x_bind hf
  refine sh_ast (tg := 13) i177_20 (Or.inl ⟨rfl, rfl, rfl⟩) eh_5 ?_
  refine sh_aload (i' := 0) (n := 1) i177_21 (Or.inr ⟨rfl, by decide⟩) rfl ?_
  refine ev_do i177_22 rfl ?_
  obtain ⟨h_6, eh_6, hf⟩ := x_bind hf
  refine sh_put i177_23 f177_278 (by decide) rfl eh_6 ?_
  refine sh_aload (i' := 0) (n := 1) i177_26 (Or.inr ⟨rfl, by decide⟩) rfl ?_
  refine ev_do i177_27 rfl ?_
  obtain ⟨h_7, eh_7, hf⟩ := x_bind hf
  refine sh_put i177_28 f177_282 (by decide) rfl eh_7 ?_
  refine ev_do i177_31 rfl ?_
  refine sh_istore (i' := 2) (n := 1) i177_32 (Or.inr ⟨rfl, by decide⟩) (xokst_of (Nat.le_of_ble_eq_true rfl) rfl) ?_
  exact l177_33_ok hd xFuel rfl hf
end
section
def l188_215  : Nat → Option Nat → Int32 → Int32 → Int32 → xH → Option xH
  | 0 => fun _ _ _ _ _ => none
  | n + 1 => fun o0 x1 x2 x3 h => (xgR h o0 11 15).bind fun a_1 => (xaI h 13 a_1 x1).bind fun v_2 => (if v_2 ≤ x3 then some h else (xgR h o0 11 24).bind fun a_4 => (xgR h o0 11 24).bind fun a_5 => (xaI h 13 a_5 (4800 + x3)).bind fun v_6 => (xaS h 13 (fun x => x) a_4 ((120 * x1) + x3) v_6).bind fun h_7 => (xgR h_7 o0 11 25).bind fun a_8 => (xgR h_7 o0 11 25).bind fun a_9 => (xaI h_7 13 a_9 (4800 + x3)).bind fun v_10 => (xaS h_7 13 (fun x => x) a_8 ((120 * x1) + x3) v_10).bind fun h_11 => (xgR h_11 o0 11 26).bind fun a_12 => (xgR h_11 o0 11 26).bind fun a_13 => (xaI h_11 13 a_13 (4800 + x3)).bind fun v_14 => (xaS h_11 13 (fun x => x) a_12 ((120 * x1) + x3) v_14).bind fun h_15 => (xgR h_15 o0 11 27).bind fun a_16 => (xgR h_15 o0 11 27).bind fun a_17 => (xaI h_15 13 a_17 (4800 + x3)).bind fun v_18 => (xaS h_15 13 (fun x => x) a_16 ((120 * x1) + x3) v_18).bind fun h_19 => (xgR h_19 o0 11 28).bind fun a_20 => (xgR h_19 o0 11 28).bind fun a_21 => (xaI h_19 14 a_21 (4800 + x3)).bind fun v_22 => (xaS h_19 14 (vp_nar .boolean) a_20 ((120 * x1) + x3) v_22).bind fun h_23 => (xgR h_23 o0 11 29).bind fun a_24 => (xgR h_23 o0 11 29).bind fun a_25 => (xaI h_23 13 a_25 (4800 + x3)).bind fun v_26 => (xaS h_23 13 (fun x => x) a_24 ((120 * x1) + x3) v_26).bind fun h_27 => (xgR h_27 o0 11 30).bind fun a_28 => (xgR h_27 o0 11 30).bind fun a_29 => (xaI h_27 13 a_29 (4800 + x3)).bind fun v_30 => (xaS h_27 13 (fun x => x) a_28 ((120 * x1) + x3) v_30).bind fun h_31 => l188_215 n o0 x1 x2 (x3 + 1) h_31)
theorem l188_215_ok {xs : List Int32} {d : Nat} (hd : 1 ≤ d) : ∀ (n : Nat) {u4 : Value} {u5 : Value} {o0 : Option Nat} {x1 : Int32} {x2 : Int32} {x3 : Int32} {h : xH} {r : xH} (hu4 : u4.category = 1) (hu5 : u5.category = 1), l188_215 n o0 x1 x2 x3 h = some r → xEv (xTa xs) d 188 (215, [xrv o0, .int x1, .int x2, .int x3, u4, u5], [], h) (none, r) := by
  intro n
  induction n with
  | zero => intros; rename_i hf; cases hf
  | succ n ih =>
    intro u4 u5 o0 x1 x2 x3 h r hu4 hu5 hf
    replace hf : ((xgR h o0 11 15).bind fun a_1 => (xaI h 13 a_1 x1).bind fun v_2 => (if v_2 ≤ x3 then some h else (xgR h o0 11 24).bind fun a_4 => (xgR h o0 11 24).bind fun a_5 => (xaI h 13 a_5 (4800 + x3)).bind fun v_6 => (xaS h 13 (fun x => x) a_4 ((120 * x1) + x3) v_6).bind fun h_7 => (xgR h_7 o0 11 25).bind fun a_8 => (xgR h_7 o0 11 25).bind fun a_9 => (xaI h_7 13 a_9 (4800 + x3)).bind fun v_10 => (xaS h_7 13 (fun x => x) a_8 ((120 * x1) + x3) v_10).bind fun h_11 => (xgR h_11 o0 11 26).bind fun a_12 => (xgR h_11 o0 11 26).bind fun a_13 => (xaI h_11 13 a_13 (4800 + x3)).bind fun v_14 => (xaS h_11 13 (fun x => x) a_12 ((120 * x1) + x3) v_14).bind fun h_15 => (xgR h_15 o0 11 27).bind fun a_16 => (xgR h_15 o0 11 27).bind fun a_17 => (xaI h_15 13 a_17 (4800 + x3)).bind fun v_18 => (xaS h_15 13 (fun x => x) a_16 ((120 * x1) + x3) v_18).bind fun h_19 => (xgR h_19 o0 11 28).bind fun a_20 => (xgR h_19 o0 11 28).bind fun a_21 => (xaI h_19 14 a_21 (4800 + x3)).bind fun v_22 => (xaS h_19 14 (vp_nar .boolean) a_20 ((120 * x1) + x3) v_22).bind fun h_23 => (xgR h_23 o0 11 29).bind fun a_24 => (xgR h_23 o0 11 29).bind fun a_25 => (xaI h_23 13 a_25 (4800 + x3)).bind fun v_26 => (xaS h_23 13 (fun x => x) a_24 ((120 * x1) + x3) v_26).bind fun h_27 => (xgR h_27 o0 11 30).bind fun a_28 => (xgR h_27 o0 11 30).bind fun a_29 => (xaI h_27 13 a_29 (4800 + x3)).bind fun v_30 => (xaS h_27 13 (fun x => x) a_28 ((120 * x1) + x3) v_30).bind fun h_31 => l188_215 n o0 x1 x2 (x3 + 1) h_31)) = some r := hf
    refine ev_do i188_215 rfl ?_
    refine sh_aload (i' := 0) (n := 1) i188_216 (Or.inr ⟨rfl, by decide⟩) rfl ?_
    obtain ⟨a_1, ea_1, hf⟩ := x_bind hf
    refine sh_getR i188_217 f188_50 ea_1 ?_
    refine ev_do i188_220 rfl ?_
    obtain ⟨v_2, ev_2, hf⟩ := x_bind hf
    refine sh_aldI (tg := 13) i188_221 (Or.inl ⟨rfl, rfl⟩) ev_2 ?_
    refine ev_icmp (t := 344) i188_222 rfl (fun c_3 => ?_) (fun c_3 => ?_)
    · replace hf := x_pos (show v_2 ≤ x3 from c_3) hf
      obtain rfl := Option.some.inj hf
      exact sh_vret i188_344 m188 rfl
    · replace hf := x_neg (show ¬ v_2 ≤ x3 from c_3) hf
      refine ev_do i188_225 rfl ?_
      refine ev_do i188_227 rfl ?_
      refine ev_do i188_228 rfl ?_
      refine ev_do i188_229 rfl ?_
      refine ev_do i188_230 rfl ?_
      refine sh_istore (i' := 4) (n := 2) i188_231 (Or.inl rfl) (xokst_of (Nat.le_of_ble_eq_true rfl) rfl) ?_
      refine ev_do i188_233 rfl ?_
      refine ev_do i188_236 rfl ?_
      refine ev_do i188_237 rfl ?_
      refine sh_istore (i' := 5) (n := 2) i188_238 (Or.inl rfl) (xokst_of (Nat.le_of_ble_eq_true rfl) rfl) ?_
      refine sh_aload (i' := 0) (n := 1) i188_240 (Or.inr ⟨rfl, by decide⟩) rfl ?_
      obtain ⟨a_4, ea_4, hf⟩ := x_bind hf
      refine sh_getR i188_241 f188_77 ea_4 ?_
      refine ev_do i188_244 rfl ?_
      refine sh_aload (i' := 0) (n := 1) i188_246 (Or.inr ⟨rfl, by decide⟩) rfl ?_
      obtain ⟨a_5, ea_5, hf⟩ := x_bind hf
      refine sh_getR i188_247 f188_77 ea_5 ?_
      refine ev_do i188_250 rfl ?_
      obtain ⟨v_6, ev_6, hf⟩ := x_bind hf
      refine sh_aldI (tg := 13) i188_252 (Or.inl ⟨rfl, rfl⟩) ev_6 ?_
      obtain ⟨h_7, eh_7, hf⟩ := x_bind hf
      refine sh_ast (tg := 13) i188_253 (Or.inl ⟨rfl, rfl, rfl⟩) eh_7 ?_
      refine sh_aload (i' := 0) (n := 1) i188_254 (Or.inr ⟨rfl, by decide⟩) rfl ?_
      obtain ⟨a_8, ea_8, hf⟩ := x_bind hf
      refine sh_getR i188_255 f188_80 ea_8 ?_
      refine ev_do i188_258 rfl ?_
      refine sh_aload (i' := 0) (n := 1) i188_260 (Or.inr ⟨rfl, by decide⟩) rfl ?_
      obtain ⟨a_9, ea_9, hf⟩ := x_bind hf
      refine sh_getR i188_261 f188_80 ea_9 ?_
      refine ev_do i188_264 rfl ?_
      obtain ⟨v_10, ev_10, hf⟩ := x_bind hf
      refine sh_aldI (tg := 13) i188_266 (Or.inl ⟨rfl, rfl⟩) ev_10 ?_
      obtain ⟨h_11, eh_11, hf⟩ := x_bind hf
      refine sh_ast (tg := 13) i188_267 (Or.inl ⟨rfl, rfl, rfl⟩) eh_11 ?_
      refine sh_aload (i' := 0) (n := 1) i188_268 (Or.inr ⟨rfl, by decide⟩) rfl ?_
      obtain ⟨a_12, ea_12, hf⟩ := x_bind hf
      refine sh_getR i188_269 f188_83 ea_12 ?_
      refine ev_do i188_272 rfl ?_
      refine sh_aload (i' := 0) (n := 1) i188_274 (Or.inr ⟨rfl, by decide⟩) rfl ?_
      obtain ⟨a_13, ea_13, hf⟩ := x_bind hf
      refine sh_getR i188_275 f188_83 ea_13 ?_
      refine ev_do i188_278 rfl ?_
      obtain ⟨v_14, ev_14, hf⟩ := x_bind hf
      refine sh_aldI (tg := 13) i188_280 (Or.inl ⟨rfl, rfl⟩) ev_14 ?_
      obtain ⟨h_15, eh_15, hf⟩ := x_bind hf
      refine sh_ast (tg := 13) i188_281 (Or.inl ⟨rfl, rfl, rfl⟩) eh_15 ?_
      refine sh_aload (i' := 0) (n := 1) i188_282 (Or.inr ⟨rfl, by decide⟩) rfl ?_
      obtain ⟨a_16, ea_16, hf⟩ := x_bind hf
      refine sh_getR i188_283 f188_86 ea_16 ?_
      refine ev_do i188_286 rfl ?_
      refine sh_aload (i' := 0) (n := 1) i188_288 (Or.inr ⟨rfl, by decide⟩) rfl ?_
      obtain ⟨a_17, ea_17, hf⟩ := x_bind hf
      refine sh_getR i188_289 f188_86 ea_17 ?_
      refine ev_do i188_292 rfl ?_
      obtain ⟨v_18, ev_18, hf⟩ := x_bind hf
      refine sh_aldI (tg := 13) i188_294 (Or.inl ⟨rfl, rfl⟩) ev_18 ?_
      obtain ⟨h_19, eh_19, hf⟩ := x_bind hf
      refine sh_ast (tg := 13) i188_295 (Or.inl ⟨rfl, rfl, rfl⟩) eh_19 ?_
      refine sh_aload (i' := 0) (n := 1) i188_296 (Or.inr ⟨rfl, by decide⟩) rfl ?_
      obtain ⟨a_20, ea_20, hf⟩ := x_bind hf
      refine sh_getR i188_297 f188_89 ea_20 ?_
      refine ev_do i188_300 rfl ?_
      refine sh_aload (i' := 0) (n := 1) i188_302 (Or.inr ⟨rfl, by decide⟩) rfl ?_
      obtain ⟨a_21, ea_21, hf⟩ := x_bind hf
      refine sh_getR i188_303 f188_89 ea_21 ?_
      refine ev_do i188_306 rfl ?_
      obtain ⟨v_22, ev_22, hf⟩ := x_bind hf
      refine sh_aldI (tg := 14) i188_308 (Or.inr (Or.inr ⟨rfl, rfl⟩)) ev_22 ?_
      obtain ⟨h_23, eh_23, hf⟩ := x_bind hf
      refine sh_ast (tg := 14) i188_309 (Or.inr (Or.inr ⟨rfl, rfl, rfl⟩)) eh_23 ?_
      refine sh_aload (i' := 0) (n := 1) i188_310 (Or.inr ⟨rfl, by decide⟩) rfl ?_
      obtain ⟨a_24, ea_24, hf⟩ := x_bind hf
      refine sh_getR i188_311 f188_92 ea_24 ?_
      refine ev_do i188_314 rfl ?_
      refine sh_aload (i' := 0) (n := 1) i188_316 (Or.inr ⟨rfl, by decide⟩) rfl ?_
      obtain ⟨a_25, ea_25, hf⟩ := x_bind hf
      refine sh_getR i188_317 f188_92 ea_25 ?_
      refine ev_do i188_320 rfl ?_
      obtain ⟨v_26, ev_26, hf⟩ := x_bind hf
      refine sh_aldI (tg := 13) i188_322 (Or.inl ⟨rfl, rfl⟩) ev_26 ?_
      obtain ⟨h_27, eh_27, hf⟩ := x_bind hf
      refine sh_ast (tg := 13) i188_323 (Or.inl ⟨rfl, rfl, rfl⟩) eh_27 ?_
      refine sh_aload (i' := 0) (n := 1) i188_324 (Or.inr ⟨rfl, by decide⟩) rfl ?_
      obtain ⟨a_28, ea_28, hf⟩ := x_bind hf
      refine sh_getR i188_325 f188_95 ea_28 ?_
      refine ev_do i188_328 rfl ?_
      refine sh_aload (i' := 0) (n := 1) i188_330 (Or.inr ⟨rfl, by decide⟩) rfl ?_
      obtain ⟨a_29, ea_29, hf⟩ := x_bind hf
      refine sh_getR i188_331 f188_95 ea_29 ?_
      refine ev_do i188_334 rfl ?_
      obtain ⟨v_30, ev_30, hf⟩ := x_bind hf
      refine sh_aldI (tg := 13) i188_336 (Or.inl ⟨rfl, rfl⟩) ev_30 ?_
      obtain ⟨h_31, eh_31, hf⟩ := x_bind hf
      refine sh_ast (tg := 13) i188_337 (Or.inl ⟨rfl, rfl, rfl⟩) eh_31 ?_
      refine sh_inc (i' := 3) i188_338 rfl (xokst_of (Nat.le_of_ble_eq_true rfl) rfl) rfl ?_
      refine sh_goto (t := 215) i188_341 rfl ?_
      exact ih rfl rfl hf
def l188_70  : Nat → Option Nat → Int32 → Int32 → Int32 → xH → Option xH
  | 0 => fun _ _ _ _ _ => none
  | n + 1 => fun o0 x1 x2 x3 h => (xgR h o0 11 14).bind fun a_1 => (xaI h 13 a_1 x1).bind fun v_2 => (if v_2 ≤ x3 then l188_215 xFuel o0 x1 x2 0 h else (xgR h o0 11 16).bind fun a_4 => (xgR h o0 11 16).bind fun a_5 => (xaI h 13 a_5 (960 + x3)).bind fun v_6 => (xaS h 13 (fun x => x) a_4 ((24 * x1) + x3) v_6).bind fun h_7 => (xgR h_7 o0 11 17).bind fun a_8 => (xgR h_7 o0 11 17).bind fun a_9 => (xaI h_7 13 a_9 (960 + x3)).bind fun v_10 => (xaS h_7 13 (fun x => x) a_8 ((24 * x1) + x3) v_10).bind fun h_11 => (xgR h_11 o0 11 18).bind fun a_12 => (xgR h_11 o0 11 18).bind fun a_13 => (xaI h_11 13 a_13 (960 + x3)).bind fun v_14 => (xaS h_11 13 (fun x => x) a_12 ((24 * x1) + x3) v_14).bind fun h_15 => (xgR h_15 o0 11 19).bind fun a_16 => (xgR h_15 o0 11 19).bind fun a_17 => (xaI h_15 13 a_17 (960 + x3)).bind fun v_18 => (xaS h_15 13 (fun x => x) a_16 ((24 * x1) + x3) v_18).bind fun h_19 => (xgR h_19 o0 11 20).bind fun a_20 => (xgR h_19 o0 11 20).bind fun a_21 => (xaI h_19 13 a_21 (960 + x3)).bind fun v_22 => (xaS h_19 13 (fun x => x) a_20 ((24 * x1) + x3) v_22).bind fun h_23 => (xgR h_23 o0 11 21).bind fun a_24 => (xgR h_23 o0 11 21).bind fun a_25 => (xaI h_23 13 a_25 (960 + x3)).bind fun v_26 => (xaS h_23 13 (fun x => x) a_24 ((24 * x1) + x3) v_26).bind fun h_27 => (xgR h_27 o0 11 22).bind fun a_28 => (xgR h_27 o0 11 22).bind fun a_29 => (xaI h_27 13 a_29 (960 + x3)).bind fun v_30 => (xaS h_27 13 (fun x => x) a_28 ((24 * x1) + x3) v_30).bind fun h_31 => (xgR h_31 o0 11 23).bind fun a_32 => (xgR h_31 o0 11 23).bind fun a_33 => (xaI h_31 14 a_33 (960 + x3)).bind fun v_34 => (xaS h_31 14 (vp_nar .boolean) a_32 ((24 * x1) + x3) v_34).bind fun h_35 => l188_70 n o0 x1 x2 (x3 + 1) h_35)
theorem l188_70_ok {xs : List Int32} {d : Nat} (hd : 1 ≤ d) : ∀ (n : Nat) {u4 : Value} {u5 : Value} {o0 : Option Nat} {x1 : Int32} {x2 : Int32} {x3 : Int32} {h : xH} {r : xH} (hu4 : u4.category = 1) (hu5 : u5.category = 1), l188_70 n o0 x1 x2 x3 h = some r → xEv (xTa xs) d 188 (70, [xrv o0, .int x1, .int x2, .int x3, u4, u5], [], h) (none, r) := by
  intro n
  induction n with
  | zero => intros; rename_i hf; cases hf
  | succ n ih =>
    intro u4 u5 o0 x1 x2 x3 h r hu4 hu5 hf
    replace hf : ((xgR h o0 11 14).bind fun a_1 => (xaI h 13 a_1 x1).bind fun v_2 => (if v_2 ≤ x3 then l188_215 xFuel o0 x1 x2 0 h else (xgR h o0 11 16).bind fun a_4 => (xgR h o0 11 16).bind fun a_5 => (xaI h 13 a_5 (960 + x3)).bind fun v_6 => (xaS h 13 (fun x => x) a_4 ((24 * x1) + x3) v_6).bind fun h_7 => (xgR h_7 o0 11 17).bind fun a_8 => (xgR h_7 o0 11 17).bind fun a_9 => (xaI h_7 13 a_9 (960 + x3)).bind fun v_10 => (xaS h_7 13 (fun x => x) a_8 ((24 * x1) + x3) v_10).bind fun h_11 => (xgR h_11 o0 11 18).bind fun a_12 => (xgR h_11 o0 11 18).bind fun a_13 => (xaI h_11 13 a_13 (960 + x3)).bind fun v_14 => (xaS h_11 13 (fun x => x) a_12 ((24 * x1) + x3) v_14).bind fun h_15 => (xgR h_15 o0 11 19).bind fun a_16 => (xgR h_15 o0 11 19).bind fun a_17 => (xaI h_15 13 a_17 (960 + x3)).bind fun v_18 => (xaS h_15 13 (fun x => x) a_16 ((24 * x1) + x3) v_18).bind fun h_19 => (xgR h_19 o0 11 20).bind fun a_20 => (xgR h_19 o0 11 20).bind fun a_21 => (xaI h_19 13 a_21 (960 + x3)).bind fun v_22 => (xaS h_19 13 (fun x => x) a_20 ((24 * x1) + x3) v_22).bind fun h_23 => (xgR h_23 o0 11 21).bind fun a_24 => (xgR h_23 o0 11 21).bind fun a_25 => (xaI h_23 13 a_25 (960 + x3)).bind fun v_26 => (xaS h_23 13 (fun x => x) a_24 ((24 * x1) + x3) v_26).bind fun h_27 => (xgR h_27 o0 11 22).bind fun a_28 => (xgR h_27 o0 11 22).bind fun a_29 => (xaI h_27 13 a_29 (960 + x3)).bind fun v_30 => (xaS h_27 13 (fun x => x) a_28 ((24 * x1) + x3) v_30).bind fun h_31 => (xgR h_31 o0 11 23).bind fun a_32 => (xgR h_31 o0 11 23).bind fun a_33 => (xaI h_31 14 a_33 (960 + x3)).bind fun v_34 => (xaS h_31 14 (vp_nar .boolean) a_32 ((24 * x1) + x3) v_34).bind fun h_35 => l188_70 n o0 x1 x2 (x3 + 1) h_35)) = some r := hf
    refine ev_do i188_70 rfl ?_
    refine sh_aload (i' := 0) (n := 1) i188_71 (Or.inr ⟨rfl, by decide⟩) rfl ?_
    obtain ⟨a_1, ea_1, hf⟩ := x_bind hf
    refine sh_getR i188_72 f188_47 ea_1 ?_
    refine ev_do i188_75 rfl ?_
    obtain ⟨v_2, ev_2, hf⟩ := x_bind hf
    refine sh_aldI (tg := 13) i188_76 (Or.inl ⟨rfl, rfl⟩) ev_2 ?_
    refine ev_icmp (t := 213) i188_77 rfl (fun c_3 => ?_) (fun c_3 => ?_)
    · replace hf := x_pos (show v_2 ≤ x3 from c_3) hf
      refine ev_do i188_213 rfl ?_
      refine sh_istore (i' := 3) (n := 1) i188_214 (Or.inr ⟨rfl, by decide⟩) (xokst_of (Nat.le_of_ble_eq_true rfl) rfl) ?_
      exact l188_215_ok hd xFuel hu4 hu5 hf
    · replace hf := x_neg (show ¬ v_2 ≤ x3 from c_3) hf
      refine ev_do i188_80 rfl ?_
      refine ev_do i188_82 rfl ?_
      refine ev_do i188_83 rfl ?_
      refine ev_do i188_84 rfl ?_
      refine ev_do i188_85 rfl ?_
      refine sh_istore (i' := 4) (n := 2) i188_86 (Or.inl rfl) (xokst_of (Nat.le_of_ble_eq_true rfl) rfl) ?_
      refine ev_do i188_88 rfl ?_
      refine ev_do i188_91 rfl ?_
      refine ev_do i188_92 rfl ?_
      refine sh_istore (i' := 5) (n := 2) i188_93 (Or.inl rfl) (xokst_of (Nat.le_of_ble_eq_true rfl) rfl) ?_
      refine sh_aload (i' := 0) (n := 1) i188_95 (Or.inr ⟨rfl, by decide⟩) rfl ?_
      obtain ⟨a_4, ea_4, hf⟩ := x_bind hf
      refine sh_getR i188_96 f188_53 ea_4 ?_
      refine ev_do i188_99 rfl ?_
      refine sh_aload (i' := 0) (n := 1) i188_101 (Or.inr ⟨rfl, by decide⟩) rfl ?_
      obtain ⟨a_5, ea_5, hf⟩ := x_bind hf
      refine sh_getR i188_102 f188_53 ea_5 ?_
      refine ev_do i188_105 rfl ?_
      obtain ⟨v_6, ev_6, hf⟩ := x_bind hf
      refine sh_aldI (tg := 13) i188_107 (Or.inl ⟨rfl, rfl⟩) ev_6 ?_
      obtain ⟨h_7, eh_7, hf⟩ := x_bind hf
      refine sh_ast (tg := 13) i188_108 (Or.inl ⟨rfl, rfl, rfl⟩) eh_7 ?_
      refine sh_aload (i' := 0) (n := 1) i188_109 (Or.inr ⟨rfl, by decide⟩) rfl ?_
      obtain ⟨a_8, ea_8, hf⟩ := x_bind hf
      refine sh_getR i188_110 f188_56 ea_8 ?_
      refine ev_do i188_113 rfl ?_
      refine sh_aload (i' := 0) (n := 1) i188_115 (Or.inr ⟨rfl, by decide⟩) rfl ?_
      obtain ⟨a_9, ea_9, hf⟩ := x_bind hf
      refine sh_getR i188_116 f188_56 ea_9 ?_
      refine ev_do i188_119 rfl ?_
      obtain ⟨v_10, ev_10, hf⟩ := x_bind hf
      refine sh_aldI (tg := 13) i188_121 (Or.inl ⟨rfl, rfl⟩) ev_10 ?_
      obtain ⟨h_11, eh_11, hf⟩ := x_bind hf
      refine sh_ast (tg := 13) i188_122 (Or.inl ⟨rfl, rfl, rfl⟩) eh_11 ?_
      refine sh_aload (i' := 0) (n := 1) i188_123 (Or.inr ⟨rfl, by decide⟩) rfl ?_
      obtain ⟨a_12, ea_12, hf⟩ := x_bind hf
      refine sh_getR i188_124 f188_59 ea_12 ?_
      refine ev_do i188_127 rfl ?_
      refine sh_aload (i' := 0) (n := 1) i188_129 (Or.inr ⟨rfl, by decide⟩) rfl ?_
      obtain ⟨a_13, ea_13, hf⟩ := x_bind hf
      refine sh_getR i188_130 f188_59 ea_13 ?_
      refine ev_do i188_133 rfl ?_
      obtain ⟨v_14, ev_14, hf⟩ := x_bind hf
      refine sh_aldI (tg := 13) i188_135 (Or.inl ⟨rfl, rfl⟩) ev_14 ?_
      obtain ⟨h_15, eh_15, hf⟩ := x_bind hf
      refine sh_ast (tg := 13) i188_136 (Or.inl ⟨rfl, rfl, rfl⟩) eh_15 ?_
      refine sh_aload (i' := 0) (n := 1) i188_137 (Or.inr ⟨rfl, by decide⟩) rfl ?_
      obtain ⟨a_16, ea_16, hf⟩ := x_bind hf
      refine sh_getR i188_138 f188_62 ea_16 ?_
      refine ev_do i188_141 rfl ?_
      refine sh_aload (i' := 0) (n := 1) i188_143 (Or.inr ⟨rfl, by decide⟩) rfl ?_
      obtain ⟨a_17, ea_17, hf⟩ := x_bind hf
      refine sh_getR i188_144 f188_62 ea_17 ?_
      refine ev_do i188_147 rfl ?_
      obtain ⟨v_18, ev_18, hf⟩ := x_bind hf
      refine sh_aldI (tg := 13) i188_149 (Or.inl ⟨rfl, rfl⟩) ev_18 ?_
      obtain ⟨h_19, eh_19, hf⟩ := x_bind hf
      refine sh_ast (tg := 13) i188_150 (Or.inl ⟨rfl, rfl, rfl⟩) eh_19 ?_
      refine sh_aload (i' := 0) (n := 1) i188_151 (Or.inr ⟨rfl, by decide⟩) rfl ?_
      obtain ⟨a_20, ea_20, hf⟩ := x_bind hf
      refine sh_getR i188_152 f188_65 ea_20 ?_
      refine ev_do i188_155 rfl ?_
      refine sh_aload (i' := 0) (n := 1) i188_157 (Or.inr ⟨rfl, by decide⟩) rfl ?_
      obtain ⟨a_21, ea_21, hf⟩ := x_bind hf
      refine sh_getR i188_158 f188_65 ea_21 ?_
      refine ev_do i188_161 rfl ?_
      obtain ⟨v_22, ev_22, hf⟩ := x_bind hf
      refine sh_aldI (tg := 13) i188_163 (Or.inl ⟨rfl, rfl⟩) ev_22 ?_
      obtain ⟨h_23, eh_23, hf⟩ := x_bind hf
      refine sh_ast (tg := 13) i188_164 (Or.inl ⟨rfl, rfl, rfl⟩) eh_23 ?_
      refine sh_aload (i' := 0) (n := 1) i188_165 (Or.inr ⟨rfl, by decide⟩) rfl ?_
      obtain ⟨a_24, ea_24, hf⟩ := x_bind hf
      refine sh_getR i188_166 f188_68 ea_24 ?_
      refine ev_do i188_169 rfl ?_
      refine sh_aload (i' := 0) (n := 1) i188_171 (Or.inr ⟨rfl, by decide⟩) rfl ?_
      obtain ⟨a_25, ea_25, hf⟩ := x_bind hf
      refine sh_getR i188_172 f188_68 ea_25 ?_
      refine ev_do i188_175 rfl ?_
      obtain ⟨v_26, ev_26, hf⟩ := x_bind hf
      refine sh_aldI (tg := 13) i188_177 (Or.inl ⟨rfl, rfl⟩) ev_26 ?_
      obtain ⟨h_27, eh_27, hf⟩ := x_bind hf
      refine sh_ast (tg := 13) i188_178 (Or.inl ⟨rfl, rfl, rfl⟩) eh_27 ?_
      refine sh_aload (i' := 0) (n := 1) i188_179 (Or.inr ⟨rfl, by decide⟩) rfl ?_
      obtain ⟨a_28, ea_28, hf⟩ := x_bind hf
      refine sh_getR i188_180 f188_71 ea_28 ?_
      refine ev_do i188_183 rfl ?_
      refine sh_aload (i' := 0) (n := 1) i188_185 (Or.inr ⟨rfl, by decide⟩) rfl ?_
      obtain ⟨a_29, ea_29, hf⟩ := x_bind hf
      refine sh_getR i188_186 f188_71 ea_29 ?_
      refine ev_do i188_189 rfl ?_
      obtain ⟨v_30, ev_30, hf⟩ := x_bind hf
      refine sh_aldI (tg := 13) i188_191 (Or.inl ⟨rfl, rfl⟩) ev_30 ?_
      obtain ⟨h_31, eh_31, hf⟩ := x_bind hf
      refine sh_ast (tg := 13) i188_192 (Or.inl ⟨rfl, rfl, rfl⟩) eh_31 ?_
      refine sh_aload (i' := 0) (n := 1) i188_193 (Or.inr ⟨rfl, by decide⟩) rfl ?_
      obtain ⟨a_32, ea_32, hf⟩ := x_bind hf
      refine sh_getR i188_194 f188_74 ea_32 ?_
      refine ev_do i188_197 rfl ?_
      refine sh_aload (i' := 0) (n := 1) i188_199 (Or.inr ⟨rfl, by decide⟩) rfl ?_
      obtain ⟨a_33, ea_33, hf⟩ := x_bind hf
      refine sh_getR i188_200 f188_74 ea_33 ?_
      refine ev_do i188_203 rfl ?_
      obtain ⟨v_34, ev_34, hf⟩ := x_bind hf
      refine sh_aldI (tg := 14) i188_205 (Or.inr (Or.inr ⟨rfl, rfl⟩)) ev_34 ?_
      obtain ⟨h_35, eh_35, hf⟩ := x_bind hf
      refine sh_ast (tg := 14) i188_206 (Or.inr (Or.inr ⟨rfl, rfl, rfl⟩)) eh_35 ?_
      refine sh_inc (i' := 3) i188_207 rfl (xokst_of (Nat.le_of_ble_eq_true rfl) rfl) rfl ?_
      refine sh_goto (t := 70) i188_210 rfl ?_
      exact ih rfl rfl hf
def l188_35  : Nat → Option Nat → Int32 → Int32 → Int32 → xH → Option xH
  | 0 => fun _ _ _ _ _ => none
  | n + 1 => fun o0 x1 x2 x3 h => (if x2 ≤ x3 then l188_70 xFuel o0 x1 x2 0 h else (xgR h o0 11 12).bind fun a_2 => (xgR h o0 11 12).bind fun a_3 => (xaI h 13 a_3 (24000 + x3)).bind fun v_4 => (xaS h 13 (fun x => x) a_2 ((600 * x1) + x3) v_4).bind fun h_5 => l188_35 n o0 x1 x2 (x3 + 1) h_5)
theorem l188_35_ok {xs : List Int32} {d : Nat} (hd : 1 ≤ d) : ∀ (n : Nat) {u4 : Value} {u5 : Value} {o0 : Option Nat} {x1 : Int32} {x2 : Int32} {x3 : Int32} {h : xH} {r : xH} (hu4 : u4.category = 1) (hu5 : u5.category = 1), l188_35 n o0 x1 x2 x3 h = some r → xEv (xTa xs) d 188 (35, [xrv o0, .int x1, .int x2, .int x3, u4, u5], [], h) (none, r) := by
  intro n
  induction n with
  | zero => intros; rename_i hf; cases hf
  | succ n ih =>
    intro u4 u5 o0 x1 x2 x3 h r hu4 hu5 hf
    replace hf : ((if x2 ≤ x3 then l188_70 xFuel o0 x1 x2 0 h else (xgR h o0 11 12).bind fun a_2 => (xgR h o0 11 12).bind fun a_3 => (xaI h 13 a_3 (24000 + x3)).bind fun v_4 => (xaS h 13 (fun x => x) a_2 ((600 * x1) + x3) v_4).bind fun h_5 => l188_35 n o0 x1 x2 (x3 + 1) h_5)) = some r := hf
    refine ev_do i188_35 rfl ?_
    refine ev_do i188_36 rfl ?_
    refine ev_icmp (t := 68) i188_37 rfl (fun c_1 => ?_) (fun c_1 => ?_)
    · replace hf := x_pos (show x2 ≤ x3 from c_1) hf
      refine ev_do i188_68 rfl ?_
      refine sh_istore (i' := 3) (n := 1) i188_69 (Or.inr ⟨rfl, by decide⟩) (xokst_of (Nat.le_of_ble_eq_true rfl) rfl) ?_
      exact l188_70_ok hd xFuel hu4 hu5 hf
    · replace hf := x_neg (show ¬ x2 ≤ x3 from c_1) hf
      refine sh_aload (i' := 0) (n := 1) i188_40 (Or.inr ⟨rfl, by decide⟩) rfl ?_
      obtain ⟨a_2, ea_2, hf⟩ := x_bind hf
      refine sh_getR i188_41 f188_41 ea_2 ?_
      refine ev_do i188_44 rfl ?_
      refine ev_do i188_47 rfl ?_
      refine ev_do i188_48 rfl ?_
      refine ev_do i188_49 rfl ?_
      refine ev_do i188_50 rfl ?_
      refine sh_aload (i' := 0) (n := 1) i188_51 (Or.inr ⟨rfl, by decide⟩) rfl ?_
      obtain ⟨a_3, ea_3, hf⟩ := x_bind hf
      refine sh_getR i188_52 f188_41 ea_3 ?_
      refine ev_do i188_55 rfl ?_
      refine ev_do i188_58 rfl ?_
      refine ev_do i188_59 rfl ?_
      obtain ⟨v_4, ev_4, hf⟩ := x_bind hf
      refine sh_aldI (tg := 13) i188_60 (Or.inl ⟨rfl, rfl⟩) ev_4 ?_
      obtain ⟨h_5, eh_5, hf⟩ := x_bind hf
      refine sh_ast (tg := 13) i188_61 (Or.inl ⟨rfl, rfl, rfl⟩) eh_5 ?_
      refine sh_inc (i' := 3) i188_62 rfl (xokst_of (Nat.le_of_ble_eq_true rfl) rfl) rfl ?_
      refine sh_goto (t := 35) i188_65 rfl ?_
      exact ih hu4 hu5 hf
def fn188 (o0 : Option Nat) (x1 : Int32) (x2 : Int32) (h : xH) : Option xH := (xgR h o0 11 13).bind fun a_1 => (xaS h 13 (fun x => x) a_1 x1 x2).bind fun h_2 => (xgR h_2 o0 11 14).bind fun a_3 => (xgR h_2 o0 11 14).bind fun a_4 => (xaI h_2 13 a_4 40).bind fun v_5 => (xaS h_2 13 (fun x => x) a_3 x1 v_5).bind fun h_6 => (xgR h_6 o0 11 15).bind fun a_7 => (xgR h_6 o0 11 15).bind fun a_8 => (xaI h_6 13 a_8 40).bind fun v_9 => (xaS h_6 13 (fun x => x) a_7 x1 v_9).bind fun h_10 => l188_35 xFuel o0 x1 x2 0 h_10
theorem fn188_call {xs : List Int32} {d : Nat} (hd : 2 ≤ d) {o0 : Option Nat} {x1 : Int32} {x2 : Int32} {h : xH} {r : xH} (hf : fn188 o0 x1 x2 h = some r) : xCall (xTa xs) d 188 [xrv o0, .int x1, .int x2] h (none, r) := by
  obtain ⟨d, rfl⟩ : ∃ d2, d = d2 + 1 := ⟨d - 1, by omega⟩
  replace hd : 1 ≤ d := by omega
  refine call_of2 (fl := [xrv o0, .int x1, .int x2]) (Ls := [xrv o0, .int x1, .int x2, .float 0, .float 0, .float 0]) m188 (by simp [xfl, xrv_cat, xc_i, xc_j, xc_a, xc_f]) (Nat.le_of_ble_eq_true rfl) rfl ?_
  unfold fn188 at hf
  refine sh_aload (i' := 0) (n := 1) i188_0 (Or.inr ⟨rfl, by decide⟩) rfl ?_
  obtain ⟨a_1, ea_1, hf⟩ := x_bind hf
  refine sh_getR i188_1 f188_44 ea_1 ?_
  refine ev_do i188_4 rfl ?_
  refine ev_do i188_5 rfl ?_
  obtain ⟨h_2, eh_2, hf⟩ := x_bind hf
  refine sh_ast (tg := 13) i188_6 (Or.inl ⟨rfl, rfl, rfl⟩) eh_2 ?_
  refine sh_aload (i' := 0) (n := 1) i188_7 (Or.inr ⟨rfl, by decide⟩) rfl ?_
  obtain ⟨a_3, ea_3, hf⟩ := x_bind hf
  refine sh_getR i188_8 f188_47 ea_3 ?_
  refine ev_do i188_11 rfl ?_
  refine sh_aload (i' := 0) (n := 1) i188_12 (Or.inr ⟨rfl, by decide⟩) rfl ?_
  obtain ⟨a_4, ea_4, hf⟩ := x_bind hf
  refine sh_getR i188_13 f188_47 ea_4 ?_
  refine ev_do i188_16 rfl ?_
  obtain ⟨v_5, ev_5, hf⟩ := x_bind hf
  refine sh_aldI (tg := 13) i188_18 (Or.inl ⟨rfl, rfl⟩) ev_5 ?_
  obtain ⟨h_6, eh_6, hf⟩ := x_bind hf
  refine sh_ast (tg := 13) i188_19 (Or.inl ⟨rfl, rfl, rfl⟩) eh_6 ?_
  refine sh_aload (i' := 0) (n := 1) i188_20 (Or.inr ⟨rfl, by decide⟩) rfl ?_
  obtain ⟨a_7, ea_7, hf⟩ := x_bind hf
  refine sh_getR i188_21 f188_50 ea_7 ?_
  refine ev_do i188_24 rfl ?_
  refine sh_aload (i' := 0) (n := 1) i188_25 (Or.inr ⟨rfl, by decide⟩) rfl ?_
  obtain ⟨a_8, ea_8, hf⟩ := x_bind hf
  refine sh_getR i188_26 f188_50 ea_8 ?_
  refine ev_do i188_29 rfl ?_
  obtain ⟨v_9, ev_9, hf⟩ := x_bind hf
  refine sh_aldI (tg := 13) i188_31 (Or.inl ⟨rfl, rfl⟩) ev_9 ?_
  obtain ⟨h_10, eh_10, hf⟩ := x_bind hf
  refine sh_ast (tg := 13) i188_32 (Or.inl ⟨rfl, rfl, rfl⟩) eh_10 ?_
  refine ev_do i188_33 rfl ?_
  refine sh_istore (i' := 3) (n := 1) i188_34 (Or.inr ⟨rfl, by decide⟩) (xokst_of (Nat.le_of_ble_eq_true rfl) rfl) ?_
  exact l188_35_ok hd xFuel rfl rfl hf
end
section
def j189_64  (o0 : Option Nat) (x1 : Int32) (x2 : Int32) (x3 : Int32) (s0 : Option Nat) (s1 : Int32) (h : xH) : Option (Int32 × xH) := (xpF h s0 11 34 .boolean (.int s1)).bind fun h_1 => (xcv h_1 o0 11).bind fun _ => (fn177 o0 x2 h_1).bind fun h_2 => (xgI h_2 o0 11 31).bind fun v_3 => (xpF h_2 o0 11 33 .int (.int v_3)).bind fun h_4 => (xgI h_4 o0 11 31).bind fun v_5 => (if v_5 ≤ 0 then (xcv h_4 o0 11).bind fun _ => (fn188 o0 x1 x2 h_4).bind fun h_7 => (xgR h_7 o0 11 14).bind fun a_8 => (xaI h_7 13 a_8 x1).bind fun v_9 => some (v_9, h_7) else (xgI h_4 o0 11 32).bind fun v_11 => some ((-10) - v_11, h_4))
theorem j189_64_ok {xs : List Int32} {d : Nat} (hd : 10 ≤ d) {o0 : Option Nat} {x1 : Int32} {x2 : Int32} {x3 : Int32} {s0 : Option Nat} {s1 : Int32} {h : xH} {r : (Int32 × xH)} (hf : j189_64 o0 x1 x2 x3 s0 s1 h = some r) : xEv (xTa xs) d 189 (64, [xrv o0, .int x1, .int x2, .int x3], [.int s1, xrv s0], h) (some (.int r.1), r.2) := by
  unfold j189_64 at hf
  obtain ⟨h_1, eh_1, hf⟩ := x_bind hf
  refine sh_put i189_64 f189_312 (by decide) rfl eh_1 ?_
  refine sh_aload (i' := 0) (n := 1) i189_67 (Or.inr ⟨rfl, by decide⟩) rfl ?_
  refine ev_do i189_68 rfl ?_
  obtain ⟨_, eu_12, hf⟩ := x_bind hf
  obtain ⟨h_2, eh_2, hf⟩ := x_bind hf
  refine sh_inv (as := [.int x2]) (z := (none, h_2)) i189_69 v189_344 (Or.inl ⟨by decide, rfl⟩) m177 rfl (Nat.le_of_ble_eq_true rfl) eu_12 (fn177_call (by omega) eh_2) ?_
  refine sh_aload (i' := 0) (n := 1) i189_72 (Or.inr ⟨rfl, by decide⟩) rfl ?_
  refine sh_aload (i' := 0) (n := 1) i189_73 (Or.inr ⟨rfl, by decide⟩) rfl ?_
  obtain ⟨v_3, ev_3, hf⟩ := x_bind hf
  refine sh_getI i189_74 f189_218 ev_3 ?_
  obtain ⟨h_4, eh_4, hf⟩ := x_bind hf
  refine sh_put i189_77 f189_347 (by decide) rfl eh_4 ?_
  refine sh_aload (i' := 0) (n := 1) i189_80 (Or.inr ⟨rfl, by decide⟩) rfl ?_
  obtain ⟨v_5, ev_5, hf⟩ := x_bind hf
  refine sh_getI i189_81 f189_218 ev_5 ?_
  refine ev_if (t := 95) i189_84 rfl (fun c_6 => ?_) (fun c_6 => ?_)
  · replace hf := x_pos (show v_5 ≤ 0 from c_6) hf
    refine sh_aload (i' := 0) (n := 1) i189_95 (Or.inr ⟨rfl, by decide⟩) rfl ?_
    refine ev_do i189_96 rfl ?_
    refine ev_do i189_97 rfl ?_
    obtain ⟨_, eu_10, hf⟩ := x_bind hf
    obtain ⟨h_7, eh_7, hf⟩ := x_bind hf
    refine sh_inv (as := [.int x2, .int x1]) (z := (none, h_7)) i189_98 v189_350 (Or.inl ⟨by decide, rfl⟩) m188 rfl (Nat.le_of_ble_eq_true rfl) eu_10 (fn188_call (by omega) eh_7) ?_
    refine sh_aload (i' := 0) (n := 1) i189_101 (Or.inr ⟨rfl, by decide⟩) rfl ?_
    obtain ⟨a_8, ea_8, hf⟩ := x_bind hf
    refine sh_getR i189_102 f189_47 ea_8 ?_
    refine ev_do i189_105 rfl ?_
    obtain ⟨v_9, ev_9, hf⟩ := x_bind hf
    refine sh_aldI (tg := 13) i189_106 (Or.inl ⟨rfl, rfl⟩) ev_9 ?_
    obtain rfl := Option.some.inj hf
    exact sh_iret i189_107 m189 rfl rfl
  · replace hf := x_neg (show ¬ v_5 ≤ 0 from c_6) hf
    refine ev_do i189_87 rfl ?_
    refine sh_aload (i' := 0) (n := 1) i189_89 (Or.inr ⟨rfl, by decide⟩) rfl ?_
    obtain ⟨v_11, ev_11, hf⟩ := x_bind hf
    refine sh_getI i189_90 f189_221 ev_11 ?_
    refine ev_do i189_93 rfl ?_
    obtain rfl := Option.some.inj hf
    exact sh_iret i189_94 m189 rfl rfl
def l189_22  : Nat → Option Nat → Int32 → Int32 → Int32 → xH → Option (Int32 × xH)
  | 0 => fun _ _ _ _ _ => none
  | n + 1 => fun o0 x1 x2 x3 h => (if x2 ≤ x3 then (xgR h o0 11 3).bind fun a_2 => (xaI h 14 a_2 x1).bind fun v_3 => (if v_3 = 0 then j189_64 o0 x1 x2 x3 o0 1 h else j189_64 o0 x1 x2 x3 o0 0 h) else (xgR h o0 11 12).bind fun a_5 => (xgR h o0 11 0).bind fun a_6 => (xaI h 13 a_6 x3).bind fun v_7 => (xaS h 13 (fun x => x) a_5 (24000 + x3) v_7).bind fun h_8 => l189_22 n o0 x1 x2 (x3 + 1) h_8)
theorem l189_22_ok {xs : List Int32} {d : Nat} (hd : 10 ≤ d) : ∀ (n : Nat) {o0 : Option Nat} {x1 : Int32} {x2 : Int32} {x3 : Int32} {h : xH} {r : (Int32 × xH)}, l189_22 n o0 x1 x2 x3 h = some r → xEv (xTa xs) d 189 (22, [xrv o0, .int x1, .int x2, .int x3], [], h) (some (.int r.1), r.2) := by
  intro n
  induction n with
  | zero => intros; rename_i hf; cases hf
  | succ n ih =>
    intro o0 x1 x2 x3 h r hf
    replace hf : ((if x2 ≤ x3 then (xgR h o0 11 3).bind fun a_2 => (xaI h 14 a_2 x1).bind fun v_3 => (if v_3 = 0 then j189_64 o0 x1 x2 x3 o0 1 h else j189_64 o0 x1 x2 x3 o0 0 h) else (xgR h o0 11 12).bind fun a_5 => (xgR h o0 11 0).bind fun a_6 => (xaI h 13 a_6 x3).bind fun v_7 => (xaS h 13 (fun x => x) a_5 (24000 + x3) v_7).bind fun h_8 => l189_22 n o0 x1 x2 (x3 + 1) h_8)) = some r := hf
    refine ev_do i189_22 rfl ?_
    refine ev_do i189_23 rfl ?_
    refine ev_icmp (t := 49) i189_24 rfl (fun c_1 => ?_) (fun c_1 => ?_)
    · replace hf := x_pos (show x2 ≤ x3 from c_1) hf
      refine sh_aload (i' := 0) (n := 1) i189_49 (Or.inr ⟨rfl, by decide⟩) rfl ?_
      refine sh_aload (i' := 0) (n := 1) i189_50 (Or.inr ⟨rfl, by decide⟩) rfl ?_
      obtain ⟨a_2, ea_2, hf⟩ := x_bind hf
      refine sh_getR i189_51 f189_13 ea_2 ?_
      refine ev_do i189_54 rfl ?_
      obtain ⟨v_3, ev_3, hf⟩ := x_bind hf
      refine sh_aldI (tg := 14) i189_55 (Or.inr (Or.inr ⟨rfl, rfl⟩)) ev_3 ?_
      refine ev_if (t := 63) i189_56 rfl (fun c_4 => ?_) (fun c_4 => ?_)
      · replace hf := x_neg (show ¬ v_3 = 0 from c_4) hf
        refine ev_do i189_63 rfl ?_
        exact j189_64_ok hd hf
      · replace hf := x_pos (show v_3 = 0 from Decidable.byContradiction (fun h9 => c_4 h9)) hf
        refine ev_do i189_59 rfl ?_
        refine sh_goto (t := 64) i189_60 rfl ?_
        exact j189_64_ok hd hf
    · replace hf := x_neg (show ¬ x2 ≤ x3 from c_1) hf
      refine sh_aload (i' := 0) (n := 1) i189_27 (Or.inr ⟨rfl, by decide⟩) rfl ?_
      obtain ⟨a_5, ea_5, hf⟩ := x_bind hf
      refine sh_getR i189_28 f189_41 ea_5 ?_
      refine ev_do i189_31 rfl ?_
      refine ev_do i189_34 rfl ?_
      refine ev_do i189_35 rfl ?_
      refine sh_aload (i' := 0) (n := 1) i189_36 (Or.inr ⟨rfl, by decide⟩) rfl ?_
      obtain ⟨a_6, ea_6, hf⟩ := x_bind hf
      refine sh_getR i189_37 f189_9 ea_6 ?_
      refine ev_do i189_40 rfl ?_
      obtain ⟨v_7, ev_7, hf⟩ := x_bind hf
      refine sh_aldI (tg := 13) i189_41 (Or.inl ⟨rfl, rfl⟩) ev_7 ?_
      obtain ⟨h_8, eh_8, hf⟩ := x_bind hf
      refine sh_ast (tg := 13) i189_42 (Or.inl ⟨rfl, rfl, rfl⟩) eh_8 ?_
      refine sh_inc (i' := 3) i189_43 rfl (xokst_of (Nat.le_of_ble_eq_true rfl) rfl) rfl ?_
      refine sh_goto (t := 22) i189_46 rfl ?_
      exact ih hf
def fn189 (o0 : Option Nat) (x1 : Int32) (h : xH) : Option (Int32 × xH) := (xgI h o0 11 1).bind fun v_1 => (xpF h o0 11 1 .int (.int 0)).bind fun h_2 => (xcv h_2 o0 11).bind fun _ => (fn148 o0 x1 h_2).bind fun r_3 => (if r_3.1 = 0 then some ((-1), r_3.2) else l189_22 xFuel o0 x1 v_1 0 r_3.2)
theorem fn189_call {xs : List Int32} {d : Nat} (hd : 11 ≤ d) {o0 : Option Nat} {x1 : Int32} {h : xH} {r : (Int32 × xH)} (hf : fn189 o0 x1 h = some r) : xCall (xTa xs) d 189 [xrv o0, .int x1] h (some (.int r.1), r.2) := by
  obtain ⟨d, rfl⟩ : ∃ d2, d = d2 + 1 := ⟨d - 1, by omega⟩
  replace hd : 10 ≤ d := by omega
  refine call_of2 (fl := [xrv o0, .int x1]) (Ls := [xrv o0, .int x1, .float 0, .float 0]) m189 (by simp [xfl, xrv_cat, xc_i, xc_j, xc_a, xc_f]) (Nat.le_of_ble_eq_true rfl) rfl ?_
  unfold fn189 at hf
  refine sh_aload (i' := 0) (n := 1) i189_0 (Or.inr ⟨rfl, by decide⟩) rfl ?_
  obtain ⟨v_1, ev_1, hf⟩ := x_bind hf
  refine sh_getI i189_1 f189_146 ev_1 ?_
  refine sh_istore (i' := 2) (n := 1) i189_4 (Or.inr ⟨rfl, by decide⟩) (xokst_of (Nat.le_of_ble_eq_true rfl) rfl) ?_
  refine sh_aload (i' := 0) (n := 1) i189_5 (Or.inr ⟨rfl, by decide⟩) rfl ?_
  refine ev_do i189_6 rfl ?_
  obtain ⟨h_2, eh_2, hf⟩ := x_bind hf
  refine sh_put i189_7 f189_146 (by decide) rfl eh_2 ?_
  refine sh_aload (i' := 0) (n := 1) i189_10 (Or.inr ⟨rfl, by decide⟩) rfl ?_
  refine ev_do i189_11 rfl ?_
  obtain ⟨_, eu_5, hf⟩ := x_bind hf
  obtain ⟨r_3, er_3, hf⟩ := x_bind hf
  refine sh_inv (as := [.int x1]) (z := (some (.int r_3.1), r_3.2)) i189_12 v189_161 (Or.inl ⟨by decide, rfl⟩) m148 rfl (Nat.le_of_ble_eq_true rfl) eu_5 (fn148_call (by omega) er_3) ?_
  refine ev_if (t := 20) i189_15 rfl (fun c_4 => ?_) (fun c_4 => ?_)
  · replace hf := x_neg (show ¬ r_3.1 = 0 from c_4) hf
    refine ev_do i189_20 rfl ?_
    refine sh_istore (i' := 3) (n := 1) i189_21 (Or.inr ⟨rfl, by decide⟩) (xokst_of (Nat.le_of_ble_eq_true rfl) rfl) ?_
    exact l189_22_ok hd xFuel hf
  · replace hf := x_pos (show r_3.1 = 0 from Decidable.byContradiction (fun h9 => c_4 h9)) hf
    refine ev_do i189_18 rfl ?_
    obtain rfl := Option.some.inj hf
    exact sh_iret i189_19 m189 rfl rfl
end
section
def fn190 (o0 : Option Nat) (h : xH) : Option (Int32 × xH) := (xgI h o0 11 33).bind fun v_1 => some (v_1, h)
theorem fn190_call {xs : List Int32} {d : Nat} (hd : 2 ≤ d) {o0 : Option Nat} {h : xH} {r : (Int32 × xH)} (hf : fn190 o0 h = some r) : xCall (xTa xs) d 190 [xrv o0] h (some (.int r.1), r.2) := by
  obtain ⟨d, rfl⟩ : ∃ d2, d = d2 + 1 := ⟨d - 1, by omega⟩
  replace hd : 1 ≤ d := by omega
  refine call_of2 (fl := [xrv o0]) (Ls := [xrv o0]) m190 (by simp [xfl, xrv_cat, xc_i, xc_j, xc_a, xc_f]) (Nat.le_of_ble_eq_true rfl) rfl ?_
  unfold fn190 at hf
  refine sh_aload (i' := 0) (n := 1) i190_0 (Or.inr ⟨rfl, by decide⟩) rfl ?_
  obtain ⟨v_1, ev_1, hf⟩ := x_bind hf
  refine sh_getI i190_1 f190_347 ev_1 ?_
  obtain rfl := Option.some.inj hf
  exact sh_iret i190_4 m190 rfl rfl
end
section
def fn191 (o0 : Option Nat) (x1 : Int32) (h : xH) : Option (Int32 × xH) := (xcv h o0 11).bind fun _ => (fn148 o0 x1 h).bind fun r_1 => (if r_1.1 = 0 then some ((-1), r_1.2) else (xgR r_1.2 o0 11 13).bind fun a_3 => (xaI r_1.2 13 a_3 x1).bind fun v_4 => (if v_4 = (-1) then some ((-2), r_1.2) else (xgR r_1.2 o0 11 14).bind fun a_6 => (xaI r_1.2 13 a_6 x1).bind fun v_7 => (xgR r_1.2 o0 11 13).bind fun a_8 => (xaS r_1.2 13 (fun x => x) a_8 x1 (-1)).bind fun h_9 => (xgR h_9 o0 11 14).bind fun a_10 => (xaS h_9 13 (fun x => x) a_10 x1 0).bind fun h_11 => (xgR h_11 o0 11 15).bind fun a_12 => (xaS h_11 13 (fun x => x) a_12 x1 0).bind fun h_13 => some (v_7, h_13)))
theorem fn191_call {xs : List Int32} {d : Nat} (hd : 4 ≤ d) {o0 : Option Nat} {x1 : Int32} {h : xH} {r : (Int32 × xH)} (hf : fn191 o0 x1 h = some r) : xCall (xTa xs) d 191 [xrv o0, .int x1] h (some (.int r.1), r.2) := by
  obtain ⟨d, rfl⟩ : ∃ d2, d = d2 + 1 := ⟨d - 1, by omega⟩
  replace hd : 3 ≤ d := by omega
  refine call_of2 (fl := [xrv o0, .int x1]) (Ls := [xrv o0, .int x1, .float 0]) m191 (by simp [xfl, xrv_cat, xc_i, xc_j, xc_a, xc_f]) (Nat.le_of_ble_eq_true rfl) rfl ?_
  unfold fn191 at hf
  refine sh_aload (i' := 0) (n := 1) i191_0 (Or.inr ⟨rfl, by decide⟩) rfl ?_
  refine ev_do i191_1 rfl ?_
  obtain ⟨_, eu_14, hf⟩ := x_bind hf
  obtain ⟨r_1, er_1, hf⟩ := x_bind hf
  refine sh_inv (as := [.int x1]) (z := (some (.int r_1.1), r_1.2)) i191_2 v191_161 (Or.inl ⟨by decide, rfl⟩) m148 rfl (Nat.le_of_ble_eq_true rfl) eu_14 (fn148_call (by omega) er_1) ?_
  refine ev_if (t := 10) i191_5 rfl (fun c_2 => ?_) (fun c_2 => ?_)
  · replace hf := x_neg (show ¬ r_1.1 = 0 from c_2) hf
    refine sh_aload (i' := 0) (n := 1) i191_10 (Or.inr ⟨rfl, by decide⟩) rfl ?_
    obtain ⟨a_3, ea_3, hf⟩ := x_bind hf
    refine sh_getR i191_11 f191_44 ea_3 ?_
    refine ev_do i191_14 rfl ?_
    obtain ⟨v_4, ev_4, hf⟩ := x_bind hf
    refine sh_aldI (tg := 13) i191_15 (Or.inl ⟨rfl, rfl⟩) ev_4 ?_
    refine ev_do i191_16 rfl ?_
    refine ev_icmp (t := 23) i191_17 rfl (fun c_5 => ?_) (fun c_5 => ?_)
    · replace hf := x_neg (show ¬ v_4 = (-1) from c_5) hf
      refine sh_aload (i' := 0) (n := 1) i191_23 (Or.inr ⟨rfl, by decide⟩) rfl ?_
      obtain ⟨a_6, ea_6, hf⟩ := x_bind hf
      refine sh_getR i191_24 f191_47 ea_6 ?_
      refine ev_do i191_27 rfl ?_
      obtain ⟨v_7, ev_7, hf⟩ := x_bind hf
      refine sh_aldI (tg := 13) i191_28 (Or.inl ⟨rfl, rfl⟩) ev_7 ?_
      refine sh_istore (i' := 2) (n := 1) i191_29 (Or.inr ⟨rfl, by decide⟩) (xokst_of (Nat.le_of_ble_eq_true rfl) rfl) ?_
      refine sh_aload (i' := 0) (n := 1) i191_30 (Or.inr ⟨rfl, by decide⟩) rfl ?_
      obtain ⟨a_8, ea_8, hf⟩ := x_bind hf
      refine sh_getR i191_31 f191_44 ea_8 ?_
      refine ev_do i191_34 rfl ?_
      refine ev_do i191_35 rfl ?_
      obtain ⟨h_9, eh_9, hf⟩ := x_bind hf
      refine sh_ast (tg := 13) i191_36 (Or.inl ⟨rfl, rfl, rfl⟩) eh_9 ?_
      refine sh_aload (i' := 0) (n := 1) i191_37 (Or.inr ⟨rfl, by decide⟩) rfl ?_
      obtain ⟨a_10, ea_10, hf⟩ := x_bind hf
      refine sh_getR i191_38 f191_47 ea_10 ?_
      refine ev_do i191_41 rfl ?_
      refine ev_do i191_42 rfl ?_
      obtain ⟨h_11, eh_11, hf⟩ := x_bind hf
      refine sh_ast (tg := 13) i191_43 (Or.inl ⟨rfl, rfl, rfl⟩) eh_11 ?_
      refine sh_aload (i' := 0) (n := 1) i191_44 (Or.inr ⟨rfl, by decide⟩) rfl ?_
      obtain ⟨a_12, ea_12, hf⟩ := x_bind hf
      refine sh_getR i191_45 f191_50 ea_12 ?_
      refine ev_do i191_48 rfl ?_
      refine ev_do i191_49 rfl ?_
      obtain ⟨h_13, eh_13, hf⟩ := x_bind hf
      refine sh_ast (tg := 13) i191_50 (Or.inl ⟨rfl, rfl, rfl⟩) eh_13 ?_
      refine ev_do i191_51 rfl ?_
      obtain rfl := Option.some.inj hf
      exact sh_iret i191_52 m191 rfl rfl
    · replace hf := x_pos (show v_4 = (-1) from Decidable.byContradiction (fun h9 => c_5 h9)) hf
      refine ev_do i191_20 rfl ?_
      obtain rfl := Option.some.inj hf
      exact sh_iret i191_22 m191 rfl rfl
  · replace hf := x_pos (show r_1.1 = 0 from Decidable.byContradiction (fun h9 => c_2 h9)) hf
    refine ev_do i191_8 rfl ?_
    obtain rfl := Option.some.inj hf
    exact sh_iret i191_9 m191 rfl rfl
end
section
def j192_95  (o0 : Option Nat) (x1 : Int32) (x2 : Int32) (s0 : Int32) (h : xH) : Option (Int32 × xH) := some (s0, h)
theorem j192_95_ok {xs : List Int32} {d : Nat} (hd : 5 ≤ d) {o0 : Option Nat} {x1 : Int32} {x2 : Int32} {s0 : Int32} {h : xH} {r : (Int32 × xH)} (hf : j192_95 o0 x1 x2 s0 h = some r) : xEv (xTa xs) d 192 (95, [xrv o0, .int x1, .int x2], [.int s0], h) (some (.int r.1), r.2) := by
  unfold j192_95 at hf
  obtain rfl := Option.some.inj hf
  exact sh_iret i192_95 m192 rfl rfl
def fn192 (o0 : Option Nat) (x1 : Int32) (x2 : Int32) (h : xH) : Option (Int32 × xH) := (xcv h o0 11).bind fun _ => (fn148 o0 x1 h).bind fun r_1 => (if r_1.1 = 0 then some ((-9), r_1.2) else (if x2 = 0 then (xgR r_1.2 o0 11 4).bind fun a_4 => (xaI r_1.2 13 a_4 x1).bind fun v_5 => some (v_5, r_1.2) else (if x2 = 1 then (xgR r_1.2 o0 11 5).bind fun a_7 => (xaI r_1.2 13 a_7 x1).bind fun v_8 => some (v_8, r_1.2) else (if x2 = 2 then (xgR r_1.2 o0 11 9).bind fun a_10 => (xaI r_1.2 13 a_10 x1).bind fun v_11 => some (v_11, r_1.2) else (if x2 = 3 then (xgR r_1.2 o0 11 6).bind fun a_13 => (xaI r_1.2 14 a_13 x1).bind fun v_14 => (if v_14 = 0 then j192_95 o0 x1 x2 0 r_1.2 else j192_95 o0 x1 x2 1 r_1.2) else (if x2 = 4 then (xcv r_1.2 o0 11).bind fun _ => (fn156 o0 x1 r_1.2).bind fun r_17 => some (r_17.1, r_17.2) else (if x2 = 5 then (xcv r_1.2 o0 11).bind fun _ => (fn160 o0 x1 r_1.2).bind fun r_20 => some (r_20.1, r_20.2) else (if x2 = 6 then (xgR r_1.2 o0 11 14).bind fun a_23 => (xaI r_1.2 13 a_23 x1).bind fun v_24 => some (v_24, r_1.2) else (if x2 = 7 then (xgR r_1.2 o0 11 15).bind fun a_26 => (xaI r_1.2 13 a_26 x1).bind fun v_27 => some (v_27, r_1.2) else some ((-9), r_1.2))))))))))
theorem fn192_call {xs : List Int32} {d : Nat} (hd : 6 ≤ d) {o0 : Option Nat} {x1 : Int32} {x2 : Int32} {h : xH} {r : (Int32 × xH)} (hf : fn192 o0 x1 x2 h = some r) : xCall (xTa xs) d 192 [xrv o0, .int x1, .int x2] h (some (.int r.1), r.2) := by
  obtain ⟨d, rfl⟩ : ∃ d2, d = d2 + 1 := ⟨d - 1, by omega⟩
  replace hd : 5 ≤ d := by omega
  refine call_of2 (fl := [xrv o0, .int x1, .int x2]) (Ls := [xrv o0, .int x1, .int x2]) m192 (by simp [xfl, xrv_cat, xc_i, xc_j, xc_a, xc_f]) (Nat.le_of_ble_eq_true rfl) rfl ?_
  unfold fn192 at hf
  refine sh_aload (i' := 0) (n := 1) i192_0 (Or.inr ⟨rfl, by decide⟩) rfl ?_
  refine ev_do i192_1 rfl ?_
  obtain ⟨_, eu_28, hf⟩ := x_bind hf
  obtain ⟨r_1, er_1, hf⟩ := x_bind hf
  refine sh_inv (as := [.int x1]) (z := (some (.int r_1.1), r_1.2)) i192_2 v192_161 (Or.inl ⟨by decide, rfl⟩) m148 rfl (Nat.le_of_ble_eq_true rfl) eu_28 (fn148_call (by omega) er_1) ?_
  refine ev_if (t := 11) i192_5 rfl (fun c_2 => ?_) (fun c_2 => ?_)
  · replace hf := x_neg (show ¬ r_1.1 = 0 from c_2) hf
    refine ev_do i192_11 rfl ?_
    by_cases c_3 : x2 = 0
    · replace hf := x_pos c_3 hf
      refine sh_tswC (c := 0) (t := 60) i192_12 (show (x2).toInt = 0 by rw [c_3]; rfl) (by decide) (by decide) rfl rfl ?_
      refine sh_aload (i' := 0) (n := 1) i192_60 (Or.inr ⟨rfl, by decide⟩) rfl ?_
      obtain ⟨a_4, ea_4, hf⟩ := x_bind hf
      refine sh_getR i192_61 f192_17 ea_4 ?_
      refine ev_do i192_64 rfl ?_
      obtain ⟨v_5, ev_5, hf⟩ := x_bind hf
      refine sh_aldI (tg := 13) i192_65 (Or.inl ⟨rfl, rfl⟩) ev_5 ?_
      obtain rfl := Option.some.inj hf
      exact sh_iret i192_66 m192 rfl rfl
    · replace hf := x_neg c_3 hf
      by_cases c_6 : x2 = 1
      · replace hf := x_pos c_6 hf
        refine sh_tswC (c := 1) (t := 67) i192_12 (show (x2).toInt = 1 by rw [c_6]; rfl) (by decide) (by decide) rfl rfl ?_
        refine sh_aload (i' := 0) (n := 1) i192_67 (Or.inr ⟨rfl, by decide⟩) rfl ?_
        obtain ⟨a_7, ea_7, hf⟩ := x_bind hf
        refine sh_getR i192_68 f192_20 ea_7 ?_
        refine ev_do i192_71 rfl ?_
        obtain ⟨v_8, ev_8, hf⟩ := x_bind hf
        refine sh_aldI (tg := 13) i192_72 (Or.inl ⟨rfl, rfl⟩) ev_8 ?_
        obtain rfl := Option.some.inj hf
        exact sh_iret i192_73 m192 rfl rfl
      · replace hf := x_neg c_6 hf
        by_cases c_9 : x2 = 2
        · replace hf := x_pos c_9 hf
          refine sh_tswC (c := 2) (t := 74) i192_12 (show (x2).toInt = 2 by rw [c_9]; rfl) (by decide) (by decide) rfl rfl ?_
          refine sh_aload (i' := 0) (n := 1) i192_74 (Or.inr ⟨rfl, by decide⟩) rfl ?_
          obtain ⟨a_10, ea_10, hf⟩ := x_bind hf
          refine sh_getR i192_75 f192_32 ea_10 ?_
          refine ev_do i192_78 rfl ?_
          obtain ⟨v_11, ev_11, hf⟩ := x_bind hf
          refine sh_aldI (tg := 13) i192_79 (Or.inl ⟨rfl, rfl⟩) ev_11 ?_
          obtain rfl := Option.some.inj hf
          exact sh_iret i192_80 m192 rfl rfl
        · replace hf := x_neg c_9 hf
          by_cases c_12 : x2 = 3
          · replace hf := x_pos c_12 hf
            refine sh_tswC (c := 3) (t := 81) i192_12 (show (x2).toInt = 3 by rw [c_12]; rfl) (by decide) (by decide) rfl rfl ?_
            refine sh_aload (i' := 0) (n := 1) i192_81 (Or.inr ⟨rfl, by decide⟩) rfl ?_
            obtain ⟨a_13, ea_13, hf⟩ := x_bind hf
            refine sh_getR i192_82 f192_23 ea_13 ?_
            refine ev_do i192_85 rfl ?_
            obtain ⟨v_14, ev_14, hf⟩ := x_bind hf
            refine sh_aldI (tg := 14) i192_86 (Or.inr (Or.inr ⟨rfl, rfl⟩)) ev_14 ?_
            refine ev_if (t := 94) i192_87 rfl (fun c_15 => ?_) (fun c_15 => ?_)
            · replace hf := x_pos (show v_14 = 0 from c_15) hf
              refine ev_do i192_94 rfl ?_
              exact j192_95_ok hd hf
            · replace hf := x_neg (show ¬ v_14 = 0 from c_15) hf
              refine ev_do i192_90 rfl ?_
              refine sh_goto (t := 95) i192_91 rfl ?_
              exact j192_95_ok hd hf
          · replace hf := x_neg c_12 hf
            by_cases c_16 : x2 = 4
            · replace hf := x_pos c_16 hf
              refine sh_tswC (c := 4) (t := 96) i192_12 (show (x2).toInt = 4 by rw [c_16]; rfl) (by decide) (by decide) rfl rfl ?_
              refine sh_aload (i' := 0) (n := 1) i192_96 (Or.inr ⟨rfl, by decide⟩) rfl ?_
              refine ev_do i192_97 rfl ?_
              obtain ⟨_, eu_18, hf⟩ := x_bind hf
              obtain ⟨r_17, er_17, hf⟩ := x_bind hf
              refine sh_inv (as := [.int x1]) (z := (some (.int r_17.1), r_17.2)) i192_98 v192_198 (Or.inl ⟨by decide, rfl⟩) m156 rfl (Nat.le_of_ble_eq_true rfl) eu_18 (fn156_call (by omega) er_17) ?_
              obtain rfl := Option.some.inj hf
              exact sh_iret i192_101 m192 rfl rfl
            · replace hf := x_neg c_16 hf
              by_cases c_19 : x2 = 5
              · replace hf := x_pos c_19 hf
                refine sh_tswC (c := 5) (t := 102) i192_12 (show (x2).toInt = 5 by rw [c_19]; rfl) (by decide) (by decide) rfl rfl ?_
                refine sh_aload (i' := 0) (n := 1) i192_102 (Or.inr ⟨rfl, by decide⟩) rfl ?_
                refine ev_do i192_103 rfl ?_
                obtain ⟨_, eu_21, hf⟩ := x_bind hf
                obtain ⟨r_20, er_20, hf⟩ := x_bind hf
                refine sh_inv (as := [.int x1]) (z := (some (.int r_20.1), r_20.2)) i192_104 v192_353 (Or.inl ⟨by decide, rfl⟩) m160 rfl (Nat.le_of_ble_eq_true rfl) eu_21 (fn160_call (by omega) er_20) ?_
                obtain rfl := Option.some.inj hf
                exact sh_iret i192_107 m192 rfl rfl
              · replace hf := x_neg c_19 hf
                by_cases c_22 : x2 = 6
                · replace hf := x_pos c_22 hf
                  refine sh_tswC (c := 6) (t := 108) i192_12 (show (x2).toInt = 6 by rw [c_22]; rfl) (by decide) (by decide) rfl rfl ?_
                  refine sh_aload (i' := 0) (n := 1) i192_108 (Or.inr ⟨rfl, by decide⟩) rfl ?_
                  obtain ⟨a_23, ea_23, hf⟩ := x_bind hf
                  refine sh_getR i192_109 f192_47 ea_23 ?_
                  refine ev_do i192_112 rfl ?_
                  obtain ⟨v_24, ev_24, hf⟩ := x_bind hf
                  refine sh_aldI (tg := 13) i192_113 (Or.inl ⟨rfl, rfl⟩) ev_24 ?_
                  obtain rfl := Option.some.inj hf
                  exact sh_iret i192_114 m192 rfl rfl
                · replace hf := x_neg c_22 hf
                  by_cases c_25 : x2 = 7
                  · replace hf := x_pos c_25 hf
                    refine sh_tswC (c := 7) (t := 115) i192_12 (show (x2).toInt = 7 by rw [c_25]; rfl) (by decide) (by decide) rfl rfl ?_
                    refine sh_aload (i' := 0) (n := 1) i192_115 (Or.inr ⟨rfl, by decide⟩) rfl ?_
                    obtain ⟨a_26, ea_26, hf⟩ := x_bind hf
                    refine sh_getR i192_116 f192_50 ea_26 ?_
                    refine ev_do i192_119 rfl ?_
                    obtain ⟨v_27, ev_27, hf⟩ := x_bind hf
                    refine sh_aldI (tg := 13) i192_120 (Or.inl ⟨rfl, rfl⟩) ev_27 ?_
                    obtain rfl := Option.some.inj hf
                    exact sh_iret i192_121 m192 rfl rfl
                  · replace hf := x_neg c_25 hf
                    have nc_3 : (x2).toInt ≠ 0 := fun h9 => c_3 (Int32.toInt_inj.mp h9)
                    have nc_6 : (x2).toInt ≠ 1 := fun h9 => c_6 (Int32.toInt_inj.mp h9)
                    have nc_9 : (x2).toInt ≠ 2 := fun h9 => c_9 (Int32.toInt_inj.mp h9)
                    have nc_12 : (x2).toInt ≠ 3 := fun h9 => c_12 (Int32.toInt_inj.mp h9)
                    have nc_16 : (x2).toInt ≠ 4 := fun h9 => c_16 (Int32.toInt_inj.mp h9)
                    have nc_19 : (x2).toInt ≠ 5 := fun h9 => c_19 (Int32.toInt_inj.mp h9)
                    have nc_22 : (x2).toInt ≠ 6 := fun h9 => c_22 (Int32.toInt_inj.mp h9)
                    have nc_25 : (x2).toInt ≠ 7 := fun h9 => c_25 (Int32.toInt_inj.mp h9)
                    refine sh_tswD (t := 122) i192_12 (show (x2).toInt < 0 ∨ 7 < (x2).toInt by omega) rfl ?_
                    refine ev_do i192_122 rfl ?_
                    obtain rfl := Option.some.inj hf
                    exact sh_iret i192_124 m192 rfl rfl
  · replace hf := x_pos (show r_1.1 = 0 from Decidable.byContradiction (fun h9 => c_2 h9)) hf
    refine ev_do i192_8 rfl ?_
    obtain rfl := Option.some.inj hf
    exact sh_iret i192_10 m192 rfl rfl
end
