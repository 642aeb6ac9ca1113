section
theorem gj177_198_ok {m : Nat} {h : xH} {S : mS} {x1 : Int32} {x2 : Int32} {r : mS} (H : RF h m S) (hf : gj177_198 x1 x2 S = some r) : EX (j177_198 (some m) x1 x2 h) (fun z => z) (QS m h r) := by
  have F := FM.rfl' (m := m) (h := h)
  unfold gj177_198 at hf
  unfold j177_198
  obtain rfl := Option.some.inj hf
  exact ⟨_, rfl, H, F⟩
theorem gj177_185_ok {m : Nat} {k84 : Int32 → Int32 → mS → Option mS} {f84 : Option Nat → Int32 → Int32 → xH → Option xH} (hk84 : ∀ {h : xH} {S : mS} {x1 : Int32} {x2 : Int32} {r : mS}, RF h m S → k84 x1 x2 S = some r → EX (f84 (some m) x1 x2 h) (fun z => z) (QS m h r)) {h : xH} {S : mS} {x1 : Int32} {x2 : Int32} {x3 : Int32} {s1 : Int32} {r : mS} (H : RF h m S) (hf : gj177_185 k84 x1 x2 x3 s1 S = some r) : EX (j177_185 f84 (some m) x1 x2 x3 (some m) s1 h) (fun z => z) (QS m h r) := by
  have F := FM.rfl' (m := m) (h := h)
  unfold gj177_185 at hf
  unfold j177_185
  by_cases c_3 : s1 &&& 1 = s1
  · replace hf := x_pos c_3 hf
    obtain ⟨S_1, eS_1, hf⟩ := x_bind hf
    obtain ⟨h_2, eh_2, H, F_⟩ := H.pF 36 (xfit_b c_3) eS_1
    refine EX.bd eh_2 ?_
    replace F := F.tr F_
    refine EX.bd (H.gI 37) ?_
    exact EX.uS F (hk84 H hf)
  · replace hf := x_neg c_3 hf
    cases hf
theorem gj177_171_ok {m : Nat} {k84 : Int32 → Int32 → mS → Option mS} {f84 : Option Nat → Int32 → Int32 → xH → Option xH} (hk84 : ∀ {h : xH} {S : mS} {x1 : Int32} {x2 : Int32} {r : mS}, RF h m S → k84 x1 x2 S = some r → EX (f84 (some m) x1 x2 h) (fun z => z) (QS m h r)) {h : xH} {S : mS} {x1 : Int32} {x2 : Int32} {x3 : Int32} {r : mS} (H : RF h m S) (hf : gj177_171 k84 x1 x2 x3 S = some r) : EX (j177_171 f84 (some m) x1 x2 x3 h) (fun z => z) (QS m h r) := by
  have F := FM.rfl' (m := m) (h := h)
  unfold gj177_171 at hf
  unfold j177_171
  refine EX.bd (H.gI 37) ?_
  by_cases c_1 : x3 = (S.1 37)
  · replace hf := x_pos c_1 hf
    refine EX.pos c_1 ?_
    exact EX.uS F (gj177_185_ok (k84 := k84) (f84 := f84) hk84 H hf)
  · replace hf := x_neg c_1 hf
    refine EX.neg c_1 ?_
    exact EX.uS F (gj177_185_ok (k84 := k84) (f84 := f84) hk84 H hf)
theorem gl177_84_ok {m : Nat} : ∀ (n : Nat) {h : xH} {S : mS} {x1 : Int32} {x2 : Int32} {r : mS} (H : RF h m S), gl177_84 n x1 x2 S = some r → EX (l177_84 n (some m) x1 x2 h) (fun z => z) (QS m h r) := by
  intro n
  induction n with
  | zero => intros; rename_i hf; cases hf
  | succ n ih =>
    intro h S x1 x2 r H hf
    have F := FM.rfl' (m := m) (h := h)
    replace hf : ((if x1 ≤ x2 then gj177_198 x1 x2 S else (if (S.1 31) = 0 then (g178 x2 x1 S).bind fun r_4 => (some (sPut r_4.2 37 r_4.1)).bind fun S_5 => (g169 x2 S_5).bind fun r_8 => (if r_8.1 = (r_8.2.1 37) then (some (sPut r_8.2 36 1)).bind fun S_10 => gj177_171 (gl177_84 n) x1 x2 r_8.1 S_10 else (g167 r_8.1 r_8.2).bind fun r_13 => (if r_13.1 = 64 then (g187 r_8.1 r_13.2).bind fun S_16 => gj177_171 (gl177_84 n) x1 x2 r_8.1 S_16 else (g179 r_8.1 r_13.2).bind fun r_18 => (if r_18.1 = 0 then (g181 r_8.1 x1 r_18.2).bind fun S_21 => gj177_171 (gl177_84 n) x1 x2 r_8.1 S_21 else (g180 r_8.1 (r_8.1 - x2) r_18.2).bind fun S_23 => gj177_171 (gl177_84 n) x1 x2 r_8.1 S_23))) else gj177_198 x1 x2 S))) = some r := hf
    unfold l177_84
    by_cases c_1 : x1 ≤ x2
    · replace hf := x_pos c_1 hf
      refine EX.pos c_1 ?_
      exact EX.uS F (gj177_198_ok H hf)
    · replace hf := x_neg c_1 hf
      refine EX.neg c_1 ?_
      refine EX.bd (H.gI 31) ?_
      by_cases c_2 : (S.1 31) = 0
      · replace hf := x_pos c_2 hf
        refine EX.pos c_2 ?_
        have Hc_ := H.cv
        obtain ⟨r_4, er_4, hf⟩ := x_bind hf
        obtain ⟨h_3, eh_3, H, F_⟩ := g178_ok H er_4
        refine EX.bd Hc_ ?_
        refine EX.bd eh_3 ?_
        dsimp only
        replace F := F.tr F_
        obtain ⟨S_5, eS_5, hf⟩ := x_bind hf
        obtain ⟨h_6, eh_6, H, F_⟩ := H.pF 37 (xfit_int _) eS_5
        refine EX.bd eh_6 ?_
        replace F := F.tr F_
        have Hc_ := H.cv
        obtain ⟨r_8, er_8, hf⟩ := x_bind hf
        obtain ⟨h_7, eh_7, H, F_⟩ := g169_ok H er_8
        refine EX.bd Hc_ ?_
        refine EX.bd eh_7 ?_
        dsimp only
        replace F := F.tr F_
        refine EX.bd (H.gI 37) ?_
        by_cases c_9 : r_8.1 = (r_8.2.1 37)
        · replace hf := x_pos c_9 hf
          refine EX.pos c_9 ?_
          obtain ⟨S_10, eS_10, hf⟩ := x_bind hf
          obtain ⟨h_11, eh_11, H, F_⟩ := H.pF 36 (show xfit .boolean (.int 1) = true by decide) eS_10
          refine EX.bd eh_11 ?_
          replace F := F.tr F_
          exact EX.uS F (gj177_171_ok (k84 := (gl177_84 n)) (f84 := (l177_84 n)) ih H hf)
        · replace hf := x_neg c_9 hf
          refine EX.neg c_9 ?_
          have Hc_ := H.cv
          obtain ⟨r_13, er_13, hf⟩ := x_bind hf
          obtain ⟨h_12, eh_12, H, F_⟩ := g167_ok H er_13
          refine EX.bd Hc_ ?_
          refine EX.bd eh_12 ?_
          dsimp only
          replace F := F.tr F_
          by_cases c_14 : r_13.1 = 64
          · replace hf := x_pos c_14 hf
            refine EX.pos c_14 ?_
            have Hc_ := H.cv
            obtain ⟨S_16, eS_16, hf⟩ := x_bind hf
            obtain ⟨h_15, eh_15, H, F_⟩ := g187_ok H eS_16
            refine EX.bd Hc_ ?_
            refine EX.bd eh_15 ?_
            replace F := F.tr F_
            exact EX.uS F (gj177_171_ok (k84 := (gl177_84 n)) (f84 := (l177_84 n)) ih H hf)
          · replace hf := x_neg c_14 hf
            refine EX.neg c_14 ?_
            have Hc_ := H.cv
            obtain ⟨r_18, er_18, hf⟩ := x_bind hf
            obtain ⟨h_17, eh_17, H, F_⟩ := g179_ok H er_18
            refine EX.bd Hc_ ?_
            refine EX.bd eh_17 ?_
            dsimp only
            replace F := F.tr F_
            by_cases c_19 : r_18.1 = 0
            · replace hf := x_pos c_19 hf
              refine EX.pos c_19 ?_
              have Hc_ := H.cv
              obtain ⟨S_21, eS_21, hf⟩ := x_bind hf
              obtain ⟨h_20, eh_20, H, F_⟩ := g181_ok H eS_21
              refine EX.bd Hc_ ?_
              refine EX.bd eh_20 ?_
              replace F := F.tr F_
              exact EX.uS F (gj177_171_ok (k84 := (gl177_84 n)) (f84 := (l177_84 n)) ih H hf)
            · replace hf := x_neg c_19 hf
              refine EX.neg c_19 ?_
              have Hc_ := H.cv
              obtain ⟨S_23, eS_23, hf⟩ := x_bind hf
              obtain ⟨h_22, eh_22, H, F_⟩ := g180_ok H eS_23
              refine EX.bd Hc_ ?_
              refine EX.bd eh_22 ?_
              replace F := F.tr F_
              exact EX.uS F (gj177_171_ok (k84 := (gl177_84 n)) (f84 := (l177_84 n)) ih H hf)
      · replace hf := x_neg c_2 hf
        refine EX.neg c_2 ?_
        exact EX.uS F (gj177_198_ok H hf)
theorem gj177_82_ok {m : Nat} {h : xH} {S : mS} {x1 : Int32} {x2 : Int32} {r : mS} (H : RF h m S) (hf : gj177_82 x1 x2 S = some r) : EX (j177_82 (some m) x1 x2 h) (fun z => z) (QS m h r) := by
  have F := FM.rfl' (m := m) (h := h)
  unfold gj177_82 at hf
  unfold j177_82
  exact EX.uS F (gl177_84_ok xFuel H hf)
theorem gj177_76_ok {m : Nat} {k33 : Int32 → Int32 → mS → Option mS} {f33 : Option Nat → Int32 → Int32 → xH → Option xH} (hk33 : ∀ {h : xH} {S : mS} {x1 : Int32} {x2 : Int32} {r : mS}, RF h m S → k33 x1 x2 S = some r → EX (f33 (some m) x1 x2 h) (fun z => z) (QS m h r)) {h : xH} {S : mS} {x1 : Int32} {x2 : Int32} {r : mS} (H : RF h m S) (hf : gj177_76 k33 x1 x2 S = some r) : EX (j177_76 f33 (some m) x1 x2 h) (fun z => z) (QS m h r) := by
  have F := FM.rfl' (m := m) (h := h)
  unfold gj177_76 at hf
  unfold j177_76
  exact EX.uS F (hk33 H hf)
theorem gl177_33_ok {m : Nat} : ∀ (n : Nat) {h : xH} {S : mS} {x1 : Int32} {x2 : Int32} {r : mS} (H : RF h m S), gl177_33 n x1 x2 S = some r → EX (l177_33 n (some m) x1 x2 h) (fun z => z) (QS m h r) := by
  intro n
  induction n with
  | zero => intros; rename_i hf; cases hf
  | succ n ih =>
    intro h S x1 x2 r H hf
    have F := FM.rfl' (m := m) (h := h)
    replace hf : ((if x1 ≤ x2 then gj177_82 x1 x2 S else (if (S.1 31) = 0 then (g167 x2 S).bind fun r_4 => (if r_4.1 = 10 then gj177_76 (gl177_33 n) x1 x2 r_4.2 else (g167 x2 r_4.2).bind fun r_7 => (g141 r_7.1 32 126 r_7.2).bind fun r_9 => (if r_9.1 = 0 then (g166 1 x2 r_9.2).bind fun S_12 => gj177_76 (gl177_33 n) x1 x2 S_12 else gj177_76 (gl177_33 n) x1 x2 r_9.2)) else gj177_82 x1 x2 S))) = some r := hf
    unfold l177_33
    by_cases c_1 : x1 ≤ x2
    · replace hf := x_pos c_1 hf
      refine EX.pos c_1 ?_
      exact EX.uS F (gj177_82_ok H hf)
    · replace hf := x_neg c_1 hf
      refine EX.neg c_1 ?_
      refine EX.bd (H.gI 31) ?_
      by_cases c_2 : (S.1 31) = 0
      · replace hf := x_pos c_2 hf
        refine EX.pos c_2 ?_
        have Hc_ := H.cv
        obtain ⟨r_4, er_4, hf⟩ := x_bind hf
        obtain ⟨h_3, eh_3, H, F_⟩ := g167_ok H er_4
        refine EX.bd Hc_ ?_
        refine EX.bd eh_3 ?_
        dsimp only
        replace F := F.tr F_
        by_cases c_5 : r_4.1 = 10
        · replace hf := x_pos c_5 hf
          refine EX.pos c_5 ?_
          exact EX.uS F (gj177_76_ok (k33 := (gl177_33 n)) (f33 := (l177_33 n)) ih H hf)
        · replace hf := x_neg c_5 hf
          refine EX.neg c_5 ?_
          have Hc_ := H.cv
          obtain ⟨r_7, er_7, hf⟩ := x_bind hf
          obtain ⟨h_6, eh_6, H, F_⟩ := g167_ok H er_7
          refine EX.bd Hc_ ?_
          refine EX.bd eh_6 ?_
          dsimp only
          replace F := F.tr F_
          obtain ⟨r_9, er_9, hf⟩ := x_bind hf
          obtain ⟨h_8, eh_8, H, F_⟩ := g141_ok H er_9
          refine EX.bd eh_8 ?_
          dsimp only
          replace F := F.tr F_
          by_cases c_10 : r_9.1 = 0
          · replace hf := x_pos c_10 hf
            refine EX.pos c_10 ?_
            have Hc_ := H.cv
            obtain ⟨S_12, eS_12, hf⟩ := x_bind hf
            obtain ⟨h_11, eh_11, H, F_⟩ := g166_ok H eS_12
            refine EX.bd Hc_ ?_
            refine EX.bd eh_11 ?_
            replace F := F.tr F_
            exact EX.uS F (gj177_76_ok (k33 := (gl177_33 n)) (f33 := (l177_33 n)) ih H hf)
          · replace hf := x_neg c_10 hf
            refine EX.neg c_10 ?_
            exact EX.uS F (gj177_76_ok (k33 := (gl177_33 n)) (f33 := (l177_33 n)) ih H hf)
      · replace hf := x_neg c_2 hf
        refine EX.neg c_2 ?_
        exact EX.uS F (gj177_82_ok H hf)
theorem g177_ok {h : xH} {m : Nat} {S : mS} {x1 : Int32} {r : mS} (H : RF h m S) (hf : g177 x1 S = some r) : EX (fn177 (some m) x1 h) (fun z => z) (QS m h r) := by
  have F := FM.rfl' (m := m) (h := h)
  unfold g177 at hf
  unfold fn177
  obtain ⟨S_1, eS_1, hf⟩ := x_bind hf
  obtain ⟨h_2, eh_2, H, F_⟩ := H.pF 31 (xfit_int _) eS_1
  refine EX.bd eh_2 ?_
  replace F := F.tr F_
  refine EX.bd (H.gR 14) ?_
  obtain ⟨S_3, eS_3, hf⟩ := x_bind hf
  obtain ⟨h_4, eh_4, H, F_⟩ := H.aS (by decide) eS_3
  refine EX.bd eh_4 ?_
  replace F := F.tr F_
  refine EX.bd (H.gR 15) ?_
  obtain ⟨S_5, eS_5, hf⟩ := x_bind hf
  obtain ⟨h_6, eh_6, H, F_⟩ := H.aS (by decide) eS_5
  refine EX.bd eh_6 ?_
  replace F := F.tr F_
  obtain ⟨S_7, eS_7, hf⟩ := x_bind hf
  obtain ⟨h_8, eh_8, H, F_⟩ := H.pF 35 (show xfit .boolean (.int 0) = true by decide) eS_7
  refine EX.bd eh_8 ?_
  replace F := F.tr F_
  obtain ⟨S_9, eS_9, hf⟩ := x_bind hf
  obtain ⟨h_10, eh_10, H, F_⟩ := H.pF 36 (show xfit .boolean (.int 1) = true by decide) eS_9
  refine EX.bd eh_10 ?_
  replace F := F.tr F_
  exact EX.uS F (gl177_33_ok xFuel H hf)
end
section
theorem gl188_215_ok {m : Nat} : ∀ (n : Nat) {h : xH} {S : mS} {x1 : Int32} {x2 : Int32} {x3 : Int32} {r : mS} (H : RF h m S), gl188_215 n x1 x2 x3 S = some r → EX (l188_215 n (some m) x1 x2 x3 h) (fun z => z) (QS m h r) := by
  intro n
  induction n with
  | zero => intros; rename_i hf; cases hf
  | succ n ih =>
    intro h S x1 x2 x3 r H hf
    have F := FM.rfl' (m := m) (h := h)
    replace hf : ((sLd S 15 x1).bind fun v_1 => (if v_1 ≤ x3 then some S else (sLd S 24 (4800 + x3)).bind fun v_3 => (sSt S 24 ((120 * x1) + x3) v_3).bind fun S_4 => (sLd S_4 25 (4800 + x3)).bind fun v_6 => (sSt S_4 25 ((120 * x1) + x3) v_6).bind fun S_7 => (sLd S_7 26 (4800 + x3)).bind fun v_9 => (sSt S_7 26 ((120 * x1) + x3) v_9).bind fun S_10 => (sLd S_10 27 (4800 + x3)).bind fun v_12 => (sSt S_10 27 ((120 * x1) + x3) v_12).bind fun S_13 => (sLd S_13 28 (4800 + x3)).bind fun v_15 => (sSt S_13 28 ((120 * x1) + x3) (vp_nar .boolean v_15)).bind fun S_16 => (sLd S_16 29 (4800 + x3)).bind fun v_18 => (sSt S_16 29 ((120 * x1) + x3) v_18).bind fun S_19 => (sLd S_19 30 (4800 + x3)).bind fun v_21 => (sSt S_19 30 ((120 * x1) + x3) v_21).bind fun S_22 => gl188_215 n x1 x2 (x3 + 1) S_22)) = some r := hf
    unfold l188_215
    refine EX.bd (H.gR 15) ?_
    obtain ⟨v_1, ev_1, hf⟩ := x_bind hf
    refine EX.bd (H.aI (by decide) ev_1) ?_
    by_cases c_2 : v_1 ≤ x3
    · replace hf := x_pos c_2 hf
      refine EX.pos c_2 ?_
      obtain rfl := Option.some.inj hf
      exact ⟨_, rfl, H, F⟩
    · replace hf := x_neg c_2 hf
      refine EX.neg c_2 ?_
      refine EX.bd (H.gR 24) ?_
      refine EX.bd (H.gR 24) ?_
      obtain ⟨v_3, ev_3, hf⟩ := x_bind hf
      refine EX.bd (H.aI (by decide) ev_3) ?_
      obtain ⟨S_4, eS_4, hf⟩ := x_bind hf
      obtain ⟨h_5, eh_5, H, F_⟩ := H.aS (by decide) eS_4
      refine EX.bd eh_5 ?_
      replace F := F.tr F_
      refine EX.bd (H.gR 25) ?_
      refine EX.bd (H.gR 25) ?_
      obtain ⟨v_6, ev_6, hf⟩ := x_bind hf
      refine EX.bd (H.aI (by decide) ev_6) ?_
      obtain ⟨S_7, eS_7, hf⟩ := x_bind hf
      obtain ⟨h_8, eh_8, H, F_⟩ := H.aS (by decide) eS_7
      refine EX.bd eh_8 ?_
      replace F := F.tr F_
      refine EX.bd (H.gR 26) ?_
      refine EX.bd (H.gR 26) ?_
      obtain ⟨v_9, ev_9, hf⟩ := x_bind hf
      refine EX.bd (H.aI (by decide) ev_9) ?_
      obtain ⟨S_10, eS_10, hf⟩ := x_bind hf
      obtain ⟨h_11, eh_11, H, F_⟩ := H.aS (by decide) eS_10
      refine EX.bd eh_11 ?_
      replace F := F.tr F_
      refine EX.bd (H.gR 27) ?_
      refine EX.bd (H.gR 27) ?_
      obtain ⟨v_12, ev_12, hf⟩ := x_bind hf
      refine EX.bd (H.aI (by decide) ev_12) ?_
      obtain ⟨S_13, eS_13, hf⟩ := x_bind hf
      obtain ⟨h_14, eh_14, H, F_⟩ := H.aS (by decide) eS_13
      refine EX.bd eh_14 ?_
      replace F := F.tr F_
      refine EX.bd (H.gR 28) ?_
      refine EX.bd (H.gR 28) ?_
      obtain ⟨v_15, ev_15, hf⟩ := x_bind hf
      refine EX.bd (H.aZ (by decide) ev_15) ?_
      obtain ⟨S_16, eS_16, hf⟩ := x_bind hf
      obtain ⟨h_17, eh_17, H, F_⟩ := H.aB (by decide) eS_16
      refine EX.bd eh_17 ?_
      replace F := F.tr F_
      refine EX.bd (H.gR 29) ?_
      refine EX.bd (H.gR 29) ?_
      obtain ⟨v_18, ev_18, hf⟩ := x_bind hf
      refine EX.bd (H.aI (by decide) ev_18) ?_
      obtain ⟨S_19, eS_19, hf⟩ := x_bind hf
      obtain ⟨h_20, eh_20, H, F_⟩ := H.aS (by decide) eS_19
      refine EX.bd eh_20 ?_
      replace F := F.tr F_
      refine EX.bd (H.gR 30) ?_
      refine EX.bd (H.gR 30) ?_
      obtain ⟨v_21, ev_21, hf⟩ := x_bind hf
      refine EX.bd (H.aI (by decide) ev_21) ?_
      obtain ⟨S_22, eS_22, hf⟩ := x_bind hf
      obtain ⟨h_23, eh_23, H, F_⟩ := H.aS (by decide) eS_22
      refine EX.bd eh_23 ?_
      replace F := F.tr F_
      exact EX.uS F (ih H hf)
theorem gl188_70_ok {m : Nat} : ∀ (n : Nat) {h : xH} {S : mS} {x1 : Int32} {x2 : Int32} {x3 : Int32} {r : mS} (H : RF h m S), gl188_70 n x1 x2 x3 S = some r → EX (l188_70 n (some m) x1 x2 x3 h) (fun z => z) (QS m h r) := by
  intro n
  induction n with
  | zero => intros; rename_i hf; cases hf
  | succ n ih =>
    intro h S x1 x2 x3 r H hf
    have F := FM.rfl' (m := m) (h := h)
    replace hf : ((sLd S 14 x1).bind fun v_1 => (if v_1 ≤ x3 then gl188_215 xFuel x1 x2 0 S else (sLd S 16 (960 + x3)).bind fun v_3 => (sSt S 16 ((24 * x1) + x3) v_3).bind fun S_4 => (sLd S_4 17 (960 + x3)).bind fun v_6 => (sSt S_4 17 ((24 * x1) + x3) v_6).bind fun S_7 => (sLd S_7 18 (960 + x3)).bind fun v_9 => (sSt S_7 18 ((24 * x1) + x3) v_9).bind fun S_10 => (sLd S_10 19 (960 + x3)).bind fun v_12 => (sSt S_10 19 ((24 * x1) + x3) v_12).bind fun S_13 => (sLd S_13 20 (960 + x3)).bind fun v_15 => (sSt S_13 20 ((24 * x1) + x3) v_15).bind fun S_16 => (sLd S_16 21 (960 + x3)).bind fun v_18 => (sSt S_16 21 ((24 * x1) + x3) v_18).bind fun S_19 => (sLd S_19 22 (960 + x3)).bind fun v_21 => (sSt S_19 22 ((24 * x1) + x3) v_21).bind fun S_22 => (sLd S_22 23 (960 + x3)).bind fun v_24 => (sSt S_22 23 ((24 * x1) + x3) (vp_nar .boolean v_24)).bind fun S_25 => gl188_70 n x1 x2 (x3 + 1) S_25)) = some r := hf
    unfold l188_70
    refine EX.bd (H.gR 14) ?_
    obtain ⟨v_1, ev_1, hf⟩ := x_bind hf
    refine EX.bd (H.aI (by decide) ev_1) ?_
    by_cases c_2 : v_1 ≤ x3
    · replace hf := x_pos c_2 hf
      refine EX.pos c_2 ?_
      exact EX.uS F (gl188_215_ok xFuel H hf)
    · replace hf := x_neg c_2 hf
      refine EX.neg c_2 ?_
      refine EX.bd (H.gR 16) ?_
      refine EX.bd (H.gR 16) ?_
      obtain ⟨v_3, ev_3, hf⟩ := x_bind hf
      refine EX.bd (H.aI (by decide) ev_3) ?_
      obtain ⟨S_4, eS_4, hf⟩ := x_bind hf
      obtain ⟨h_5, eh_5, H, F_⟩ := H.aS (by decide) eS_4
      refine EX.bd eh_5 ?_
      replace F := F.tr F_
      refine EX.bd (H.gR 17) ?_
      refine EX.bd (H.gR 17) ?_
      obtain ⟨v_6, ev_6, hf⟩ := x_bind hf
      refine EX.bd (H.aI (by decide) ev_6) ?_
      obtain ⟨S_7, eS_7, hf⟩ := x_bind hf
      obtain ⟨h_8, eh_8, H, F_⟩ := H.aS (by decide) eS_7
      refine EX.bd eh_8 ?_
      replace F := F.tr F_
      refine EX.bd (H.gR 18) ?_
      refine EX.bd (H.gR 18) ?_
      obtain ⟨v_9, ev_9, hf⟩ := x_bind hf
      refine EX.bd (H.aI (by decide) ev_9) ?_
      obtain ⟨S_10, eS_10, hf⟩ := x_bind hf
      obtain ⟨h_11, eh_11, H, F_⟩ := H.aS (by decide) eS_10
      refine EX.bd eh_11 ?_
      replace F := F.tr F_
      refine EX.bd (H.gR 19) ?_
      refine EX.bd (H.gR 19) ?_
      obtain ⟨v_12, ev_12, hf⟩ := x_bind hf
      refine EX.bd (H.aI (by decide) ev_12) ?_
      obtain ⟨S_13, eS_13, hf⟩ := x_bind hf
      obtain ⟨h_14, eh_14, H, F_⟩ := H.aS (by decide) eS_13
      refine EX.bd eh_14 ?_
      replace F := F.tr F_
      refine EX.bd (H.gR 20) ?_
      refine EX.bd (H.gR 20) ?_
      obtain ⟨v_15, ev_15, hf⟩ := x_bind hf
      refine EX.bd (H.aI (by decide) ev_15) ?_
      obtain ⟨S_16, eS_16, hf⟩ := x_bind hf
      obtain ⟨h_17, eh_17, H, F_⟩ := H.aS (by decide) eS_16
      refine EX.bd eh_17 ?_
      replace F := F.tr F_
      refine EX.bd (H.gR 21) ?_
      refine EX.bd (H.gR 21) ?_
      obtain ⟨v_18, ev_18, hf⟩ := x_bind hf
      refine EX.bd (H.aI (by decide) ev_18) ?_
      obtain ⟨S_19, eS_19, hf⟩ := x_bind hf
      obtain ⟨h_20, eh_20, H, F_⟩ := H.aS (by decide) eS_19
      refine EX.bd eh_20 ?_
      replace F := F.tr F_
      refine EX.bd (H.gR 22) ?_
      refine EX.bd (H.gR 22) ?_
      obtain ⟨v_21, ev_21, hf⟩ := x_bind hf
      refine EX.bd (H.aI (by decide) ev_21) ?_
      obtain ⟨S_22, eS_22, hf⟩ := x_bind hf
      obtain ⟨h_23, eh_23, H, F_⟩ := H.aS (by decide) eS_22
      refine EX.bd eh_23 ?_
      replace F := F.tr F_
      refine EX.bd (H.gR 23) ?_
      refine EX.bd (H.gR 23) ?_
      obtain ⟨v_24, ev_24, hf⟩ := x_bind hf
      refine EX.bd (H.aZ (by decide) ev_24) ?_
      obtain ⟨S_25, eS_25, hf⟩ := x_bind hf
      obtain ⟨h_26, eh_26, H, F_⟩ := H.aB (by decide) eS_25
      refine EX.bd eh_26 ?_
      replace F := F.tr F_
      exact EX.uS F (ih H hf)
theorem gl188_35_ok {m : Nat} : ∀ (n : Nat) {h : xH} {S : mS} {x1 : Int32} {x2 : Int32} {x3 : Int32} {r : mS} (H : RF h m S), gl188_35 n x1 x2 x3 S = some r → EX (l188_35 n (some m) x1 x2 x3 h) (fun z => z) (QS m h r) := by
  intro n
  induction n with
  | zero => intros; rename_i hf; cases hf
  | succ n ih =>
    intro h S x1 x2 x3 r H hf
    have F := FM.rfl' (m := m) (h := h)
    replace hf : ((if x2 ≤ x3 then gl188_70 xFuel x1 x2 0 S else (sLd S 12 (24000 + x3)).bind fun v_2 => (sSt S 12 ((600 * x1) + x3) v_2).bind fun S_3 => gl188_35 n x1 x2 (x3 + 1) S_3)) = some r := hf
    unfold l188_35
    by_cases c_1 : x2 ≤ x3
    · replace hf := x_pos c_1 hf
      refine EX.pos c_1 ?_
      exact EX.uS F (gl188_70_ok xFuel H hf)
    · replace hf := x_neg c_1 hf
      refine EX.neg c_1 ?_
      refine EX.bd (H.gR 12) ?_
      refine EX.bd (H.gR 12) ?_
      obtain ⟨v_2, ev_2, hf⟩ := x_bind hf
      refine EX.bd (H.aI (by decide) ev_2) ?_
      obtain ⟨S_3, eS_3, hf⟩ := x_bind hf
      obtain ⟨h_4, eh_4, H, F_⟩ := H.aS (by decide) eS_3
      refine EX.bd eh_4 ?_
      replace F := F.tr F_
      exact EX.uS F (ih H hf)
theorem g188_ok {h : xH} {m : Nat} {S : mS} {x1 : Int32} {x2 : Int32} {r : mS} (H : RF h m S) (hf : g188 x1 x2 S = some r) : EX (fn188 (some m) x1 x2 h) (fun z => z) (QS m h r) := by
  have F := FM.rfl' (m := m) (h := h)
  unfold g188 at hf
  unfold fn188
  refine EX.bd (H.gR 13) ?_
  obtain ⟨S_1, eS_1, hf⟩ := x_bind hf
  obtain ⟨h_2, eh_2, H, F_⟩ := H.aS (by decide) eS_1
  refine EX.bd eh_2 ?_
  replace F := F.tr F_
  refine EX.bd (H.gR 14) ?_
  refine EX.bd (H.gR 14) ?_
  obtain ⟨v_3, ev_3, hf⟩ := x_bind hf
  refine EX.bd (H.aI (by decide) ev_3) ?_
  obtain ⟨S_4, eS_4, hf⟩ := x_bind hf
  obtain ⟨h_5, eh_5, H, F_⟩ := H.aS (by decide) eS_4
  refine EX.bd eh_5 ?_
  replace F := F.tr F_
  refine EX.bd (H.gR 15) ?_
  refine EX.bd (H.gR 15) ?_
  obtain ⟨v_6, ev_6, hf⟩ := x_bind hf
  refine EX.bd (H.aI (by decide) ev_6) ?_
  obtain ⟨S_7, eS_7, hf⟩ := x_bind hf
  obtain ⟨h_8, eh_8, H, F_⟩ := H.aS (by decide) eS_7
  refine EX.bd eh_8 ?_
  replace F := F.tr F_
  exact EX.uS F (gl188_35_ok xFuel H hf)
end
section
theorem gj189_64_ok {m : Nat} {h : xH} {S : mS} {x1 : Int32} {x2 : Int32} {x3 : Int32} {s1 : Int32} {r : (Int32 × mS)} (H : RF h m S) (hf : gj189_64 x1 x2 x3 s1 S = some r) : EX (j189_64 (some m) x1 x2 x3 (some m) s1 h) (fun z => (r.1, z)) (QS m h r.2) := by
  have F := FM.rfl' (m := m) (h := h)
  unfold gj189_64 at hf
  unfold j189_64
  by_cases c_3 : s1 &&& 1 = s1
  · replace hf := x_pos c_3 hf
    obtain ⟨S_1, eS_1, hf⟩ := x_bind hf
    obtain ⟨h_2, eh_2, H, F_⟩ := H.pF 34 (xfit_b c_3) eS_1
    refine EX.bd eh_2 ?_
    replace F := F.tr F_
    have Hc_ := H.cv
    obtain ⟨S_5, eS_5, hf⟩ := x_bind hf
    obtain ⟨h_4, eh_4, H, F_⟩ := g177_ok H eS_5
    refine EX.bd Hc_ ?_
    refine EX.bd eh_4 ?_
    replace F := F.tr F_
    refine EX.bd (H.gI 31) ?_
    obtain ⟨S_6, eS_6, hf⟩ := x_bind hf
    obtain ⟨h_7, eh_7, H, F_⟩ := H.pF 33 (xfit_int _) eS_6
    refine EX.bd eh_7 ?_
    replace F := F.tr F_
    refine EX.bd (H.gI 31) ?_
    by_cases c_8 : (S_6.1 31) ≤ 0
    · replace hf := x_pos c_8 hf
      refine EX.pos c_8 ?_
      have Hc_ := H.cv
      obtain ⟨S_10, eS_10, hf⟩ := x_bind hf
      obtain ⟨h_9, eh_9, H, F_⟩ := g188_ok H eS_10
      refine EX.bd Hc_ ?_
      refine EX.bd eh_9 ?_
      replace F := F.tr F_
      refine EX.bd (H.gR 14) ?_
      obtain ⟨v_11, ev_11, hf⟩ := x_bind hf
      refine EX.bd (H.aI (by decide) ev_11) ?_
      obtain rfl := Option.some.inj hf
      exact ⟨_, rfl, H, F⟩
    · replace hf := x_neg c_8 hf
      refine EX.neg c_8 ?_
      refine EX.bd (H.gI 32) ?_
      obtain rfl := Option.some.inj hf
      exact ⟨_, rfl, H, F⟩
  · replace hf := x_neg c_3 hf
    cases hf
theorem gl189_22_ok {m : Nat} : ∀ (n : Nat) {h : xH} {S : mS} {x1 : Int32} {x2 : Int32} {x3 : Int32} {r : (Int32 × mS)} (H : RF h m S), gl189_22 n x1 x2 x3 S = some r → EX (l189_22 n (some m) x1 x2 x3 h) (fun z => (r.1, z)) (QS m h r.2) := by
  intro n
  induction n with
  | zero => intros; rename_i hf; cases hf
  | succ n ih =>
    intro h S x1 x2 x3 r H hf
    have F := FM.rfl' (m := m) (h := h)
    replace hf : ((if x2 ≤ x3 then (sLd S 3 x1).bind fun v_2 => (if v_2 = 0 then gj189_64 x1 x2 x3 1 S else gj189_64 x1 x2 x3 0 S) else (sLd S 0 x3).bind fun v_4 => (sSt S 12 (24000 + x3) v_4).bind fun S_5 => gl189_22 n x1 x2 (x3 + 1) S_5)) = some r := hf
    unfold l189_22
    by_cases c_1 : x2 ≤ x3
    · replace hf := x_pos c_1 hf
      refine EX.pos c_1 ?_
      refine EX.bd (H.gR 3) ?_
      obtain ⟨v_2, ev_2, hf⟩ := x_bind hf
      refine EX.bd (H.aZ (by decide) ev_2) ?_
      by_cases c_3 : v_2 = 0
      · replace hf := x_pos c_3 hf
        refine EX.pos c_3 ?_
        exact EX.uS F (gj189_64_ok H hf)
      · replace hf := x_neg c_3 hf
        refine EX.neg c_3 ?_
        exact EX.uS F (gj189_64_ok H hf)
    · replace hf := x_neg c_1 hf
      refine EX.neg c_1 ?_
      refine EX.bd (H.gR 12) ?_
      refine EX.bd (H.gR 0) ?_
      obtain ⟨v_4, ev_4, hf⟩ := x_bind hf
      refine EX.bd (H.aI (by decide) ev_4) ?_
      obtain ⟨S_5, eS_5, hf⟩ := x_bind hf
      obtain ⟨h_6, eh_6, H, F_⟩ := H.aS (by decide) eS_5
      refine EX.bd eh_6 ?_
      replace F := F.tr F_
      exact EX.uS F (ih H hf)
theorem g189_ok {h : xH} {m : Nat} {S : mS} {x1 : Int32} {r : (Int32 × mS)} (H : RF h m S) (hf : g189 x1 S = some r) : EX (fn189 (some m) x1 h) (fun z => (r.1, z)) (QS m h r.2) := by
  have F := FM.rfl' (m := m) (h := h)
  unfold g189 at hf
  unfold fn189
  refine EX.bd (H.gI 1) ?_
  obtain ⟨S_1, eS_1, hf⟩ := x_bind hf
  obtain ⟨h_2, eh_2, H, F_⟩ := H.pF 1 (xfit_int _) eS_1
  refine EX.bd eh_2 ?_
  replace F := F.tr F_
  have Hc_ := H.cv
  obtain ⟨r_4, er_4, hf⟩ := x_bind hf
  obtain ⟨h_3, eh_3, H, F_⟩ := g148_ok H er_4
  refine EX.bd Hc_ ?_
  refine EX.bd eh_3 ?_
  dsimp only
  replace F := F.tr F_
  by_cases c_5 : r_4.1 = 0
  · replace hf := x_pos c_5 hf
    refine EX.pos c_5 ?_
    obtain rfl := Option.some.inj hf
    exact ⟨_, rfl, H, F⟩
  · replace hf := x_neg c_5 hf
    refine EX.neg c_5 ?_
    exact EX.uS F (gl189_22_ok xFuel H hf)
end
section
theorem g190_ok {h : xH} {m : Nat} {S : mS}  {r : (Int32 × mS)} (H : RF h m S) (hf : g190  S = some r) : EX (fn190 (some m) h) (fun z => (r.1, z)) (QS m h r.2) := by
  have F := FM.rfl' (m := m) (h := h)
  unfold g190 at hf
  unfold fn190
  refine EX.bd (H.gI 33) ?_
  obtain rfl := Option.some.inj hf
  exact ⟨_, rfl, H, F⟩
end
section
theorem g191_ok {h : xH} {m : Nat} {S : mS} {x1 : Int32} {r : (Int32 × mS)} (H : RF h m S) (hf : g191 x1 S = some r) : EX (fn191 (some m) x1 h) (fun z => (r.1, z)) (QS m h r.2) := by
  have F := FM.rfl' (m := m) (h := h)
  unfold g191 at hf
  unfold fn191
  have Hc_ := H.cv
  obtain ⟨r_2, er_2, hf⟩ := x_bind hf
  obtain ⟨h_1, eh_1, H, F_⟩ := g148_ok H er_2
  refine EX.bd Hc_ ?_
  refine EX.bd eh_1 ?_
  dsimp only
  replace F := F.tr F_
  by_cases c_3 : r_2.1 = 0
  · replace hf := x_pos c_3 hf
    refine EX.pos c_3 ?_
    obtain rfl := Option.some.inj hf
    exact ⟨_, rfl, H, F⟩
  · replace hf := x_neg c_3 hf
    refine EX.neg c_3 ?_
    refine EX.bd (H.gR 13) ?_
    obtain ⟨v_4, ev_4, hf⟩ := x_bind hf
    refine EX.bd (H.aI (by decide) ev_4) ?_
    by_cases c_5 : v_4 = (-1)
    · replace hf := x_pos c_5 hf
      refine EX.pos c_5 ?_
      obtain rfl := Option.some.inj hf
      exact ⟨_, rfl, H, F⟩
    · replace hf := x_neg c_5 hf
      refine EX.neg c_5 ?_
      refine EX.bd (H.gR 14) ?_
      obtain ⟨v_6, ev_6, hf⟩ := x_bind hf
      refine EX.bd (H.aI (by decide) ev_6) ?_
      refine EX.bd (H.gR 13) ?_
      obtain ⟨S_7, eS_7, hf⟩ := x_bind hf
      obtain ⟨h_8, eh_8, H, F_⟩ := H.aS (by decide) eS_7
      refine EX.bd eh_8 ?_
      replace F := F.tr F_
      refine EX.bd (H.gR 14) ?_
      obtain ⟨S_9, eS_9, hf⟩ := x_bind hf
      obtain ⟨h_10, eh_10, H, F_⟩ := H.aS (by decide) eS_9
      refine EX.bd eh_10 ?_
      replace F := F.tr F_
      refine EX.bd (H.gR 15) ?_
      obtain ⟨S_11, eS_11, hf⟩ := x_bind hf
      obtain ⟨h_12, eh_12, H, F_⟩ := H.aS (by decide) eS_11
      refine EX.bd eh_12 ?_
      replace F := F.tr F_
      obtain rfl := Option.some.inj hf
      exact ⟨_, rfl, H, F⟩
end
section
theorem gj192_95_ok {m : Nat} {h : xH} {S : mS} {x1 : Int32} {x2 : Int32} {s0 : Int32} {r : (Int32 × mS)} (H : RF h m S) (hf : gj192_95 x1 x2 s0 S = some r) : EX (j192_95 (some m) x1 x2 s0 h) (fun z => (r.1, z)) (QS m h r.2) := by
  have F := FM.rfl' (m := m) (h := h)
  unfold gj192_95 at hf
  unfold j192_95
  obtain rfl := Option.some.inj hf
  exact ⟨_, rfl, H, F⟩
theorem g192_ok {h : xH} {m : Nat} {S : mS} {x1 : Int32} {x2 : Int32} {r : (Int32 × mS)} (H : RF h m S) (hf : g192 x1 x2 S = some r) : EX (fn192 (some m) x1 x2 h) (fun z => (r.1, z)) (QS m h r.2) := by
  have F := FM.rfl' (m := m) (h := h)
  unfold g192 at hf
  unfold fn192
  have Hc_ := H.cv
  obtain ⟨r_2, er_2, hf⟩ := x_bind hf
  obtain ⟨h_1, eh_1, H, F_⟩ := g148_ok H er_2
  refine EX.bd Hc_ ?_
  refine EX.bd eh_1 ?_
  dsimp only
  replace F := F.tr F_
  by_cases c_3 : r_2.1 = 0
  · replace hf := x_pos c_3 hf
    refine EX.pos c_3 ?_
    obtain rfl := Option.some.inj hf
    exact ⟨_, rfl, H, F⟩
  · replace hf := x_neg c_3 hf
    refine EX.neg c_3 ?_
    by_cases c_4 : x2 = 0
    · replace hf := x_pos c_4 hf
      refine EX.pos c_4 ?_
      refine EX.bd (H.gR 4) ?_
      obtain ⟨v_5, ev_5, hf⟩ := x_bind hf
      refine EX.bd (H.aI (by decide) ev_5) ?_
      obtain rfl := Option.some.inj hf
      exact ⟨_, rfl, H, F⟩
    · replace hf := x_neg c_4 hf
      refine EX.neg c_4 ?_
      by_cases c_6 : x2 = 1
      · replace hf := x_pos c_6 hf
        refine EX.pos c_6 ?_
        refine EX.bd (H.gR 5) ?_
        obtain ⟨v_7, ev_7, hf⟩ := x_bind hf
        refine EX.bd (H.aI (by decide) ev_7) ?_
        obtain rfl := Option.some.inj hf
        exact ⟨_, rfl, H, F⟩
      · replace hf := x_neg c_6 hf
        refine EX.neg c_6 ?_
        by_cases c_8 : x2 = 2
        · replace hf := x_pos c_8 hf
          refine EX.pos c_8 ?_
          refine EX.bd (H.gR 9) ?_
          obtain ⟨v_9, ev_9, hf⟩ := x_bind hf
          refine EX.bd (H.aI (by decide) ev_9) ?_
          obtain rfl := Option.some.inj hf
          exact ⟨_, rfl, H, F⟩
        · replace hf := x_neg c_8 hf
          refine EX.neg c_8 ?_
          by_cases c_10 : x2 = 3
          · replace hf := x_pos c_10 hf
            refine EX.pos c_10 ?_
            refine EX.bd (H.gR 6) ?_
            obtain ⟨v_11, ev_11, hf⟩ := x_bind hf
            refine EX.bd (H.aZ (by decide) ev_11) ?_
            by_cases c_12 : v_11 = 0
            · replace hf := x_pos c_12 hf
              refine EX.pos c_12 ?_
              exact EX.uS F (gj192_95_ok H hf)
            · replace hf := x_neg c_12 hf
              refine EX.neg c_12 ?_
              exact EX.uS F (gj192_95_ok H hf)
          · replace hf := x_neg c_10 hf
            refine EX.neg c_10 ?_
            by_cases c_13 : x2 = 4
            · replace hf := x_pos c_13 hf
              refine EX.pos c_13 ?_
              have Hc_ := H.cv
              obtain ⟨r_15, er_15, hf⟩ := x_bind hf
              obtain ⟨h_14, eh_14, H, F_⟩ := g156_ok H er_15
              refine EX.bd Hc_ ?_
              refine EX.bd eh_14 ?_
              dsimp only
              replace F := F.tr F_
              obtain rfl := Option.some.inj hf
              exact ⟨_, rfl, H, F⟩
            · replace hf := x_neg c_13 hf
              refine EX.neg c_13 ?_
              by_cases c_16 : x2 = 5
              · replace hf := x_pos c_16 hf
                refine EX.pos c_16 ?_
                have Hc_ := H.cv
                obtain ⟨r_18, er_18, hf⟩ := x_bind hf
                obtain ⟨h_17, eh_17, H, F_⟩ := g160_ok H er_18
                refine EX.bd Hc_ ?_
                refine EX.bd eh_17 ?_
                dsimp only
                replace F := F.tr F_
                obtain rfl := Option.some.inj hf
                exact ⟨_, rfl, H, F⟩
              · replace hf := x_neg c_16 hf
                refine EX.neg c_16 ?_
                by_cases c_19 : x2 = 6
                · replace hf := x_pos c_19 hf
                  refine EX.pos c_19 ?_
                  refine EX.bd (H.gR 14) ?_
                  obtain ⟨v_20, ev_20, hf⟩ := x_bind hf
                  refine EX.bd (H.aI (by decide) ev_20) ?_
                  obtain rfl := Option.some.inj hf
                  exact ⟨_, rfl, H, F⟩
                · replace hf := x_neg c_19 hf
                  refine EX.neg c_19 ?_
                  by_cases c_21 : x2 = 7
                  · replace hf := x_pos c_21 hf
                    refine EX.pos c_21 ?_
                    refine EX.bd (H.gR 15) ?_
                    obtain ⟨v_22, ev_22, hf⟩ := x_bind hf
                    refine EX.bd (H.aI (by decide) ev_22) ?_
                    obtain rfl := Option.some.inj hf
                    exact ⟨_, rfl, H, F⟩
                  · replace hf := x_neg c_21 hf
                    refine EX.neg c_21 ?_
                    obtain rfl := Option.some.inj hf
                    exact ⟨_, rfl, H, F⟩
end
section
theorem gj193_95_ok {m : Nat} {h : xH} {S : mS} {x1 : Int32} {x2 : Int32} {x3 : Int32} {x4 : Int32} {s0 : Int32} {r : (Int32 × mS)} (H : RF h m S) (hf : gj193_95 x1 x2 x3 x4 s0 S = some r) : EX (j193_95 (some m) x1 x2 x3 x4 s0 h) (fun z => (r.1, z)) (QS m h r.2) := by
  have F := FM.rfl' (m := m) (h := h)
  unfold gj193_95 at hf
  unfold j193_95
  obtain rfl := Option.some.inj hf
  exact ⟨_, rfl, H, F⟩
theorem gj193_33_ok {m : Nat} {h : xH} {S : mS} {x1 : Int32} {x2 : Int32} {x3 : Int32} {r : (Int32 × mS)} (H : RF h m S) (hf : gj193_33 x1 x2 x3 S = some r) : EX (j193_33 (some m) x1 x2 x3 h) (fun z => (r.1, z)) (QS m h r.2) := by
  have F := FM.rfl' (m := m) (h := h)
  unfold gj193_33 at hf
  unfold j193_33
  obtain rfl := Option.some.inj hf
  exact ⟨_, rfl, H, F⟩
theorem g193_ok {h : xH} {m : Nat} {S : mS} {x1 : Int32} {x2 : Int32} {x3 : Int32} {r : (Int32 × mS)} (H : RF h m S) (hf : g193 x1 x2 x3 S = some r) : EX (fn193 (some m) x1 x2 x3 h) (fun z => (r.1, z)) (QS m h r.2) := by
  have F := FM.rfl' (m := m) (h := h)
  unfold g193 at hf
  unfold fn193
  have Hc_ := H.cv
  obtain ⟨r_2, er_2, hf⟩ := x_bind hf
  obtain ⟨h_1, eh_1, H, F_⟩ := g148_ok H er_2
  refine EX.bd Hc_ ?_
  refine EX.bd eh_1 ?_
  dsimp only
  replace F := F.tr F_
  by_cases c_3 : r_2.1 = 0
  · replace hf := x_pos c_3 hf
    refine EX.pos c_3 ?_
    exact EX.uS F (gj193_33_ok H hf)
  · replace hf := x_neg c_3 hf
    refine EX.neg c_3 ?_
    refine EX.bd (H.gR 14) ?_
    obtain ⟨v_4, ev_4, hf⟩ := x_bind hf
    refine EX.bd (H.aI (by decide) ev_4) ?_
    obtain ⟨r_6, er_6, hf⟩ := x_bind hf
    obtain ⟨h_5, eh_5, H, F_⟩ := g141_ok H er_6
    refine EX.bd eh_5 ?_
    dsimp only
    replace F := F.tr F_
    by_cases c_7 : r_6.1 = 0
    · replace hf := x_pos c_7 hf
      refine EX.pos c_7 ?_
      exact EX.uS F (gj193_33_ok H hf)
    · replace hf := x_neg c_7 hf
      refine EX.neg c_7 ?_
      obtain ⟨r_9, er_9, hf⟩ := x_bind hf
      obtain ⟨h_8, eh_8, H, F_⟩ := g141_ok H er_9
      refine EX.bd eh_8 ?_
      dsimp only
      replace F := F.tr F_
      by_cases c_10 : r_9.1 = 0
      · replace hf := x_pos c_10 hf
        refine EX.pos c_10 ?_
        exact EX.uS F (gj193_33_ok H hf)
      · replace hf := x_neg c_10 hf
        refine EX.neg c_10 ?_
        by_cases c_11 : x3 = 0
        · replace hf := x_pos c_11 hf
          refine EX.pos c_11 ?_
          refine EX.bd (H.gR 16) ?_
          obtain ⟨v_12, ev_12, hf⟩ := x_bind hf
          refine EX.bd (H.aI (by decide) ev_12) ?_
          exact EX.uS F (gj193_95_ok H hf)
        · replace hf := x_neg c_11 hf
          refine EX.neg c_11 ?_
          by_cases c_13 : x3 = 1
          · replace hf := x_pos c_13 hf
            refine EX.pos c_13 ?_
            refine EX.bd (H.gR 17) ?_
            obtain ⟨v_14, ev_14, hf⟩ := x_bind hf
            refine EX.bd (H.aI (by decide) ev_14) ?_
            exact EX.uS F (gj193_95_ok H hf)
          · replace hf := x_neg c_13 hf
            refine EX.neg c_13 ?_
            by_cases c_15 : x3 = 2
            · replace hf := x_pos c_15 hf
              refine EX.pos c_15 ?_
              refine EX.bd (H.gR 19) ?_
              obtain ⟨v_16, ev_16, hf⟩ := x_bind hf
              refine EX.bd (H.aI (by decide) ev_16) ?_
              exact EX.uS F (gj193_95_ok H hf)
            · replace hf := x_neg c_15 hf
              refine EX.neg c_15 ?_
              refine EX.bd (H.gR 20) ?_
              obtain ⟨v_17, ev_17, hf⟩ := x_bind hf
              refine EX.bd (H.aI (by decide) ev_17) ?_
              exact EX.uS F (gj193_95_ok H hf)
end
section
theorem gj194_160_ok {m : Nat} {h : xH} {S : mS} {x1 : Int32} {x2 : Int32} {x3 : Int32} {x4 : Int32} {s0 : Int32} {r : (Int32 × mS)} (H : RF h m S) (hf : gj194_160 x1 x2 x3 x4 s0 S = some r) : EX (j194_160 (some m) x1 x2 x3 x4 s0 h) (fun z => (r.1, z)) (QS m h r.2) := by
  have F := FM.rfl' (m := m) (h := h)
  unfold gj194_160 at hf
  unfold j194_160
  obtain rfl := Option.some.inj hf
  exact ⟨_, rfl, H, F⟩
theorem gj194_115_ok {m : Nat} {h : xH} {S : mS} {x1 : Int32} {x2 : Int32} {x3 : Int32} {x4 : Int32} {s0 : Int32} {r : (Int32 × mS)} (H : RF h m S) (hf : gj194_115 x1 x2 x3 x4 s0 S = some r) : EX (j194_115 (some m) x1 x2 x3 x4 s0 h) (fun z => (r.1, z)) (QS m h r.2) := by
  have F := FM.rfl' (m := m) (h := h)
  unfold gj194_115 at hf
  unfold j194_115
  obtain rfl := Option.some.inj hf
  exact ⟨_, rfl, H, F⟩
theorem gj194_33_ok {m : Nat} {h : xH} {S : mS} {x1 : Int32} {x2 : Int32} {x3 : Int32} {r : (Int32 × mS)} (H : RF h m S) (hf : gj194_33 x1 x2 x3 S = some r) : EX (j194_33 (some m) x1 x2 x3 h) (fun z => (r.1, z)) (QS m h r.2) := by
  have F := FM.rfl' (m := m) (h := h)
  unfold gj194_33 at hf
  unfold j194_33
  obtain rfl := Option.some.inj hf
  exact ⟨_, rfl, H, F⟩
theorem g194_ok {h : xH} {m : Nat} {S : mS} {x1 : Int32} {x2 : Int32} {x3 : Int32} {r : (Int32 × mS)} (H : RF h m S) (hf : g194 x1 x2 x3 S = some r) : EX (fn194 (some m) x1 x2 x3 h) (fun z => (r.1, z)) (QS m h r.2) := by
  have F := FM.rfl' (m := m) (h := h)
  unfold g194 at hf
  unfold fn194
  have Hc_ := H.cv
  obtain ⟨r_2, er_2, hf⟩ := x_bind hf
  obtain ⟨h_1, eh_1, H, F_⟩ := g148_ok H er_2
  refine EX.bd Hc_ ?_
  refine EX.bd eh_1 ?_
  dsimp only
  replace F := F.tr F_
  by_cases c_3 : r_2.1 = 0
  · replace hf := x_pos c_3 hf
    refine EX.pos c_3 ?_
    exact EX.uS F (gj194_33_ok H hf)
  · replace hf := x_neg c_3 hf
    refine EX.neg c_3 ?_
    refine EX.bd (H.gR 15) ?_
    obtain ⟨v_4, ev_4, hf⟩ := x_bind hf
    refine EX.bd (H.aI (by decide) ev_4) ?_
    obtain ⟨r_6, er_6, hf⟩ := x_bind hf
    obtain ⟨h_5, eh_5, H, F_⟩ := g141_ok H er_6
    refine EX.bd eh_5 ?_
    dsimp only
    replace F := F.tr F_
    by_cases c_7 : r_6.1 = 0
    · replace hf := x_pos c_7 hf
      refine EX.pos c_7 ?_
      exact EX.uS F (gj194_33_ok H hf)
    · replace hf := x_neg c_7 hf
      refine EX.neg c_7 ?_
      obtain ⟨r_9, er_9, hf⟩ := x_bind hf
      obtain ⟨h_8, eh_8, H, F_⟩ := g141_ok H er_9
      refine EX.bd eh_8 ?_
      dsimp only
      replace F := F.tr F_
      by_cases c_10 : r_9.1 = 0
      · replace hf := x_pos c_10 hf
        refine EX.pos c_10 ?_
        exact EX.uS F (gj194_33_ok H hf)
      · replace hf := x_neg c_10 hf
        refine EX.neg c_10 ?_
        by_cases c_11 : x3 = 0
        · replace hf := x_pos c_11 hf
          refine EX.pos c_11 ?_
          refine EX.bd (H.gR 24) ?_
          obtain ⟨v_12, ev_12, hf⟩ := x_bind hf
          refine EX.bd (H.aI (by decide) ev_12) ?_
          obtain rfl := Option.some.inj hf
          exact ⟨_, rfl, H, F⟩
        · replace hf := x_neg c_11 hf
          refine EX.neg c_11 ?_
          by_cases c_13 : x3 = 1
          · replace hf := x_pos c_13 hf
            refine EX.pos c_13 ?_
            refine EX.bd (H.gR 25) ?_
            obtain ⟨v_14, ev_14, hf⟩ := x_bind hf
            refine EX.bd (H.aI (by decide) ev_14) ?_
            obtain rfl := Option.some.inj hf
            exact ⟨_, rfl, H, F⟩
          · replace hf := x_neg c_13 hf
            refine EX.neg c_13 ?_
            by_cases c_15 : x3 = 2
            · replace hf := x_pos c_15 hf
              refine EX.pos c_15 ?_
              refine EX.bd (H.gR 27) ?_
              obtain ⟨v_16, ev_16, hf⟩ := x_bind hf
              refine EX.bd (H.aI (by decide) ev_16) ?_
              obtain rfl := Option.some.inj hf
              exact ⟨_, rfl, H, F⟩
            · replace hf := x_neg c_15 hf
              refine EX.neg c_15 ?_
              by_cases c_17 : x3 = 3
              · replace hf := x_pos c_17 hf
                refine EX.pos c_17 ?_
                refine EX.bd (H.gR 28) ?_
                obtain ⟨v_18, ev_18, hf⟩ := x_bind hf
                refine EX.bd (H.aZ (by decide) ev_18) ?_
                by_cases c_19 : v_18 = 0
                · replace hf := x_pos c_19 hf
                  refine EX.pos c_19 ?_
                  exact EX.uS F (gj194_115_ok H hf)
                · replace hf := x_neg c_19 hf
                  refine EX.neg c_19 ?_
                  exact EX.uS F (gj194_115_ok H hf)
              · replace hf := x_neg c_17 hf
                refine EX.neg c_17 ?_
                refine EX.bd (H.gR 24) ?_
                obtain ⟨v_20, ev_20, hf⟩ := x_bind hf
                refine EX.bd (H.aI (by decide) ev_20) ?_
                by_cases c_21 : v_20 = 2
                · replace hf := x_pos c_21 hf
                  refine EX.pos c_21 ?_
                  refine EX.bd (H.gR 12) ?_
                  refine EX.bd (H.gR 29) ?_
                  obtain ⟨v_22, ev_22, hf⟩ := x_bind hf
                  refine EX.bd (H.aI (by decide) ev_22) ?_
                  refine EX.bd (H.gR 30) ?_
                  obtain ⟨v_23, ev_23, hf⟩ := x_bind hf
                  refine EX.bd (H.aI (by decide) ev_23) ?_
                  have Hc_ := H.cv
                  obtain ⟨r_25, er_25, hf⟩ := x_bind hf
                  obtain ⟨h_24, eh_24, H, F_⟩ := g164_ok H (by decide) er_25
                  refine EX.bd Hc_ ?_
                  refine EX.bd eh_24 ?_
                  dsimp only
                  replace F := F.tr F_
                  exact EX.uS F (gj194_160_ok H hf)
                · replace hf := x_neg c_21 hf
                  refine EX.neg c_21 ?_
                  exact EX.uS F (gj194_160_ok H hf)
end
section
theorem gj195_20_ok {m : Nat} {h : xH} {S : mS} {x1 : Int32} {r : mS} (H : RF h m S) (hf : gj195_20 x1 S = some r) : EX (j195_20 (some m) x1 h) (fun z => z) (QS m h r) := by
  have F := FM.rfl' (m := m) (h := h)
  unfold gj195_20 at hf
  unfold j195_20
  refine EX.bd (H.gI 45) ?_
  obtain ⟨S_1, eS_1, hf⟩ := x_bind hf
  obtain ⟨h_2, eh_2, H, F_⟩ := H.pF 45 (xfit_int _) eS_1
  refine EX.bd eh_2 ?_
  replace F := F.tr F_
  obtain rfl := Option.some.inj hf
  exact ⟨_, rfl, H, F⟩
theorem g195_ok {h : xH} {m : Nat} {S : mS} {x1 : Int32} {r : mS} (H : RF h m S) (hf : g195 x1 S = some r) : EX (fn195 (some m) x1 h) (fun z => z) (QS m h r) := by
  have F := FM.rfl' (m := m) (h := h)
  unfold g195 at hf
  unfold fn195
  refine EX.bd (H.gI 45) ?_
  by_cases c_1 : 4000 ≤ (S.1 45)
  · replace hf := x_pos c_1 hf
    refine EX.pos c_1 ?_
    exact EX.uS F (gj195_20_ok H hf)
  · replace hf := x_neg c_1 hf
    refine EX.neg c_1 ?_
    refine EX.bd (H.gR 44) ?_
    refine EX.bd (H.gI 45) ?_
    obtain ⟨S_2, eS_2, hf⟩ := x_bind hf
    obtain ⟨h_3, eh_3, H, F_⟩ := H.aS (by decide) eS_2
    refine EX.bd eh_3 ?_
    replace F := F.tr F_
    exact EX.uS F (gj195_20_ok H hf)
end
section
theorem gl196_18_ok {m : Nat} : ∀ (n : Nat) {h : xH} {S : mS} {x1 : Int32} {x2 : Int32} {r : mS} (H : RF h m S), gl196_18 n x1 x2 S = some r → EX (l196_18 n (some m) x1 x2 h) (fun z => z) (QS m h r) := by
  intro n
  induction n with
  | zero => intros; rename_i hf; cases hf
  | succ n ih =>
    intro h S x1 x2 r H hf
    have F := FM.rfl' (m := m) (h := h)
    replace hf : ((if x2 ≤ 0 then some S else if x2 = 0 then none else (g195 (48 + (xrem (x1 / x2) 10)) S).bind fun S_4 => gl196_18 n x1 (x2 / 10) S_4)) = some r := hf
    unfold l196_18
    by_cases c_1 : x2 ≤ 0
    · replace hf := x_pos c_1 hf
      refine EX.pos c_1 ?_
      obtain rfl := Option.some.inj hf
      exact ⟨_, rfl, H, F⟩
    · replace hf := x_neg c_1 hf
      refine EX.neg c_1 ?_
      by_cases c_2 : x2 = 0
      · replace hf := x_pos c_2 hf
        cases hf
      · replace hf := x_neg c_2 hf
        refine EX.neg c_2 ?_
        have Hc_ := H.cv
        obtain ⟨S_4, eS_4, hf⟩ := x_bind hf
        obtain ⟨h_3, eh_3, H, F_⟩ := g195_ok H eS_4
        refine EX.bd Hc_ ?_
        refine EX.bd eh_3 ?_
        replace F := F.tr F_
        exact EX.uS F (ih H hf)
theorem gl196_2_ok {m : Nat} : ∀ (n : Nat) {h : xH} {S : mS} {x1 : Int32} {x2 : Int32} {r : mS} (H : RF h m S), gl196_2 n x1 x2 S = some r → EX (l196_2 n (some m) x1 x2 h) (fun z => z) (QS m h r) := by
  intro n
  induction n with
  | zero => intros; rename_i hf; cases hf
  | succ n ih =>
    intro h S x1 x2 r H hf
    have F := FM.rfl' (m := m) (h := h)
    replace hf : (if x2 = 0 then none else (if (x1 / x2) ≤ 9 then gl196_18 xFuel x1 x2 S else gl196_2 n x1 (x2 * 10) S)) = some r := hf
    unfold l196_2
    by_cases c_1 : x2 = 0
    · replace hf := x_pos c_1 hf
      cases hf
    · replace hf := x_neg c_1 hf
      refine EX.neg c_1 ?_
      by_cases c_2 : (x1 / x2) ≤ 9
      · replace hf := x_pos c_2 hf
        refine EX.pos c_2 ?_
        exact EX.uS F (gl196_18_ok xFuel H hf)
      · replace hf := x_neg c_2 hf
        refine EX.neg c_2 ?_
        exact EX.uS F (ih H hf)
theorem g196_ok {h : xH} {m : Nat} {S : mS} {x1 : Int32} {r : mS} (H : RF h m S) (hf : g196 x1 S = some r) : EX (fn196 (some m) x1 h) (fun z => z) (QS m h r) := by
  have F := FM.rfl' (m := m) (h := h)
  unfold g196 at hf
  unfold fn196
  exact EX.uS F (gl196_2_ok xFuel H hf)
end
section
theorem gj197_23_ok {m : Nat} {h : xH} {S : mS}  {r : mS} (H : RF h m S) (hf : gj197_23  S = some r) : EX (j197_23 (some m) h) (fun z => z) (QS m h r) := by
  have F := FM.rfl' (m := m) (h := h)
  unfold gj197_23 at hf
  unfold j197_23
  refine EX.bd (H.gI 47) ?_
  obtain ⟨S_1, eS_1, hf⟩ := x_bind hf
  obtain ⟨h_2, eh_2, H, F_⟩ := H.pF 47 (xfit_int _) eS_1
  refine EX.bd eh_2 ?_
  replace F := F.tr F_
  obtain rfl := Option.some.inj hf
  exact ⟨_, rfl, H, F⟩
theorem g197_ok {h : xH} {m : Nat} {S : mS}  {r : mS} (H : RF h m S) (hf : g197  S = some r) : EX (fn197 (some m) h) (fun z => z) (QS m h r) := by
  have F := FM.rfl' (m := m) (h := h)
  unfold g197 at hf
  unfold fn197
  refine EX.bd (H.gI 47) ?_
  by_cases c_1 : 4001 ≤ (S.1 47)
  · replace hf := x_pos c_1 hf
    refine EX.pos c_1 ?_
    exact EX.uS F (gj197_23_ok H hf)
  · replace hf := x_neg c_1 hf
    refine EX.neg c_1 ?_
    refine EX.bd (H.gR 46) ?_
    refine EX.bd (H.gI 47) ?_
    refine EX.bd (H.gI 45) ?_
    obtain ⟨S_2, eS_2, hf⟩ := x_bind hf
    obtain ⟨h_3, eh_3, H, F_⟩ := H.aS (by decide) eS_2
    refine EX.bd eh_3 ?_
    replace F := F.tr F_
    exact EX.uS F (gj197_23_ok H hf)
end
section
theorem gj198_56_ok {m : Nat} {h : xH} {S : mS} {x1 : Int32} {s1 : Int32} {r : mS} (H : RF h m S) (hf : gj198_56 x1 s1 S = some r) : EX (j198_56 (some m) x1 (some m) s1 h) (fun z => z) (QS m h r) := by
  have F := FM.rfl' (m := m) (h := h)
  unfold gj198_56 at hf
  unfold j198_56
  obtain ⟨S_1, eS_1, hf⟩ := x_bind hf
  obtain ⟨h_2, eh_2, H, F_⟩ := H.pF 49 (xfit_int _) eS_1
  refine EX.bd eh_2 ?_
  replace F := F.tr F_
  have Hc_ := H.cv
  obtain ⟨S_4, eS_4, hf⟩ := x_bind hf
  obtain ⟨h_3, eh_3, H, F_⟩ := g195_ok H eS_4
  refine EX.bd Hc_ ?_
  refine EX.bd eh_3 ?_
  replace F := F.tr F_
  obtain rfl := Option.some.inj hf
  exact ⟨_, rfl, H, F⟩
theorem gj198_28_ok {m : Nat} {h : xH} {S : mS} {s0 : Int32} {r : mS} (H : RF h m S) (hf : gj198_28 s0 S = some r) : EX (j198_28 (some m) s0 h) (fun z => z) (QS m h r) := by
  have F := FM.rfl' (m := m) (h := h)
  unfold gj198_28 at hf
  unfold j198_28
  refine EX.bd (H.gI 45) ?_
  refine EX.bd (H.gI 49) ?_
  by_cases c_1 : ((S.1 45) - s0) ≤ (S.1 49)
  · replace hf := x_pos c_1 hf
    refine EX.pos c_1 ?_
    refine EX.bd (H.gI 49) ?_
    exact EX.uS F (gj198_56_ok H hf)
  · replace hf := x_neg c_1 hf
    refine EX.neg c_1 ?_
    refine EX.bd (H.gI 45) ?_
    exact EX.uS F (gj198_56_ok H hf)
theorem g198_ok {h : xH} {m : Nat} {S : mS}  {r : mS} (H : RF h m S) (hf : g198  S = some r) : EX (fn198 (some m) h) (fun z => z) (QS m h r) := by
  have F := FM.rfl' (m := m) (h := h)
  unfold g198 at hf
  unfold fn198
  refine EX.bd (H.gI 47) ?_
  by_cases c_1 : 4002 ≤ (S.1 47)
  · replace hf := x_pos c_1 hf
    refine EX.pos c_1 ?_
    refine EX.bd (H.gI 45) ?_
    exact EX.uS F (gj198_28_ok H hf)
  · replace hf := x_neg c_1 hf
    refine EX.neg c_1 ?_
    refine EX.bd (H.gR 46) ?_
    refine EX.bd (H.gI 47) ?_
    obtain ⟨v_2, ev_2, hf⟩ := x_bind hf
    refine EX.bd (H.aI (by decide) ev_2) ?_
    exact EX.uS F (gj198_28_ok H hf)
end
section
theorem g199_ok {h : xH} {m : Nat} {S : mS}  {r : mS} (H : RF h m S) (hf : g199  S = some r) : EX (fn199 (some m) h) (fun z => z) (QS m h r) := by
  have F := FM.rfl' (m := m) (h := h)
  unfold g199 at hf
  unfold fn199
  have Hc_ := H.cv
  obtain ⟨S_2, eS_2, hf⟩ := x_bind hf
  obtain ⟨h_1, eh_1, H, F_⟩ := g197_ok H eS_2
  refine EX.bd Hc_ ?_
  refine EX.bd eh_1 ?_
  replace F := F.tr F_
  have Hc_ := H.cv
  obtain ⟨S_4, eS_4, hf⟩ := x_bind hf
  obtain ⟨h_3, eh_3, H, F_⟩ := g198_ok H eS_4
  refine EX.bd Hc_ ?_
  refine EX.bd eh_3 ?_
  replace F := F.tr F_
  obtain rfl := Option.some.inj hf
  exact ⟨_, rfl, H, F⟩
end
section
theorem gl201_2_ok {m : Nat} : ∀ (n : Nat) {h : xH} {S : mS} {x1 : Int32} {x2 : Int32} {r : mS} (H : RF h m S), gl201_2 n x1 x2 S = some r → EX (l201_2 n (some m) x1 x2 h) (fun z => z) (QS m h r) := by
  intro n
  induction n with
  | zero => intros; rename_i hf; cases hf
  | succ n ih =>
    intro h S x1 x2 r H hf
    have F := FM.rfl' (m := m) (h := h)
    replace hf : ((sLd S 8 x1).bind fun v_1 => (if v_1 ≤ x2 then some S else (sLd S 7 ((10 * x1) + x2)).bind fun v_3 => (g195 v_3 S).bind fun S_5 => gl201_2 n x1 (x2 + 1) S_5)) = some r := hf
    unfold l201_2
    refine EX.bd (H.gR 8) ?_
    obtain ⟨v_1, ev_1, hf⟩ := x_bind hf
    refine EX.bd (H.aI (by decide) ev_1) ?_
    by_cases c_2 : v_1 ≤ x2
    · replace hf := x_pos c_2 hf
      refine EX.pos c_2 ?_
      obtain rfl := Option.some.inj hf
      exact ⟨_, rfl, H, F⟩
    · replace hf := x_neg c_2 hf
      refine EX.neg c_2 ?_
      refine EX.bd (H.gR 7) ?_
      obtain ⟨v_3, ev_3, hf⟩ := x_bind hf
      refine EX.bd (H.aI (by decide) ev_3) ?_
      have Hc_ := H.cv
      obtain ⟨S_5, eS_5, hf⟩ := x_bind hf
      obtain ⟨h_4, eh_4, H, F_⟩ := g195_ok H eS_5
      refine EX.bd Hc_ ?_
      refine EX.bd eh_4 ?_
      replace F := F.tr F_
      exact EX.uS F (ih H hf)
theorem g201_ok {h : xH} {m : Nat} {S : mS} {x1 : Int32} {r : mS} (H : RF h m S) (hf : g201 x1 S = some r) : EX (fn201 (some m) x1 h) (fun z => z) (QS m h r) := by
  have F := FM.rfl' (m := m) (h := h)
  unfold g201 at hf
  unfold fn201
  exact EX.uS F (gl201_2_ok xFuel H hf)
end
section
theorem gj200_25_ok {m : Nat} {h : xH} {S : mS} {x1 : Int32} {r : mS} (H : RF h m S) (hf : gj200_25 x1 S = some r) : EX (j200_25 (some m) x1 h) (fun z => z) (QS m h r) := by
  have F := FM.rfl' (m := m) (h := h)
  unfold gj200_25 at hf
  unfold j200_25
  have Hc_ := H.cv
  obtain ⟨S_2, eS_2, hf⟩ := x_bind hf
  obtain ⟨h_1, eh_1, H, F_⟩ := g201_ok H eS_2
  refine EX.bd Hc_ ?_
  refine EX.bd eh_1 ?_
  replace F := F.tr F_
  obtain rfl := Option.some.inj hf
  exact ⟨_, rfl, H, F⟩
theorem g200_ok {h : xH} {m : Nat} {S : mS} {x1 : Int32} {r : mS} (H : RF h m S) (hf : g200 x1 S = some r) : EX (fn200 (some m) x1 h) (fun z => z) (QS m h r) := by
  have F := FM.rfl' (m := m) (h := h)
  unfold g200 at hf
  unfold fn200
  refine EX.bd (H.gR 3) ?_
  obtain ⟨v_1, ev_1, hf⟩ := x_bind hf
  refine EX.bd (H.aZ (by decide) ev_1) ?_
  by_cases c_2 : v_1 = 0
  · replace hf := x_pos c_2 hf
    refine EX.pos c_2 ?_
    refine EX.bd (H.gR 4) ?_
    obtain ⟨v_3, ev_3, hf⟩ := x_bind hf
    refine EX.bd (H.aI (by decide) ev_3) ?_
    have Hc_ := H.cv
    obtain ⟨S_5, eS_5, hf⟩ := x_bind hf
    obtain ⟨h_4, eh_4, H, F_⟩ := g201_ok H eS_5
    refine EX.bd Hc_ ?_
    refine EX.bd eh_4 ?_
    replace F := F.tr F_
    have Hc_ := H.cv
    obtain ⟨S_7, eS_7, hf⟩ := x_bind hf
    obtain ⟨h_6, eh_6, H, F_⟩ := g195_ok H eS_7
    refine EX.bd Hc_ ?_
    refine EX.bd eh_6 ?_
    replace F := F.tr F_
    exact EX.uS F (gj200_25_ok H hf)
  · replace hf := x_neg c_2 hf
    refine EX.neg c_2 ?_
    exact EX.uS F (gj200_25_ok H hf)
end
section
theorem g202_ok {h : xH} {m : Nat} {S : mS}  {r : mS} (H : RF h m S) (hf : g202  S = some r) : EX (fn202 (some m) h) (fun z => z) (QS m h r) := by
  have F := FM.rfl' (m := m) (h := h)
  unfold g202 at hf
  unfold fn202
  refine EX.bd (H.gR 62) ?_
  refine EX.bd (H.gI 63) ?_
  refine EX.bd (H.gI 61) ?_
  obtain ⟨S_1, eS_1, hf⟩ := x_bind hf
  obtain ⟨h_2, eh_2, H, F_⟩ := H.aS (by decide) eS_1
  refine EX.bd eh_2 ?_
  replace F := F.tr F_
  refine EX.bd (H.gI 63) ?_
  obtain ⟨S_3, eS_3, hf⟩ := x_bind hf
  obtain ⟨h_4, eh_4, H, F_⟩ := H.pF 63 (xfit_int _) eS_3
  refine EX.bd eh_4 ?_
  replace F := F.tr F_
  obtain rfl := Option.some.inj hf
  exact ⟨_, rfl, H, F⟩
end
section
theorem g203_ok {h : xH} {m : Nat} {S : mS} {x1 : Int32} {r : mS} (H : RF h m S) (hf : g203 x1 S = some r) : EX (fn203 (some m) x1 h) (fun z => z) (QS m h r) := by
  have F := FM.rfl' (m := m) (h := h)
  unfold g203 at hf
  unfold fn203
  refine EX.bd (H.gR 60) ?_
  refine EX.bd (H.gI 61) ?_
  obtain ⟨S_1, eS_1, hf⟩ := x_bind hf
  obtain ⟨h_2, eh_2, H, F_⟩ := H.aS (by decide) eS_1
  refine EX.bd eh_2 ?_
  replace F := F.tr F_
  refine EX.bd (H.gI 61) ?_
  obtain ⟨S_3, eS_3, hf⟩ := x_bind hf
  obtain ⟨h_4, eh_4, H, F_⟩ := H.pF 61 (xfit_int _) eS_3
  refine EX.bd eh_4 ?_
  replace F := F.tr F_
  obtain rfl := Option.some.inj hf
  exact ⟨_, rfl, H, F⟩
end
section
theorem gl204_3_ok {m : Nat} : ∀ (n : Nat) {h : xH} {S : mS} {x1 : Int32} {x2 : Int32} {x3 : Int32} {x4 : Int32} {r : mS} (H : RF h m S), gl204_3 n x1 x2 x3 x4 S = some r → EX (l204_3 n (some m) x1 x2 x3 x4 h) (fun z => z) (QS m h r) := by
  intro n
  induction n with
  | zero => intros; rename_i hf; cases hf
  | succ n ih =>
    intro h S x1 x2 x3 x4 r H hf
    have F := FM.rfl' (m := m) (h := h)
    replace hf : ((if x3 ≤ x4 then some S else (sLd S 12 (((600 * x1) + x2) + x4)).bind fun v_2 => (g203 v_2 S).bind fun S_4 => gl204_3 n x1 x2 x3 (x4 + 1) S_4)) = some r := hf
    unfold l204_3
    by_cases c_1 : x3 ≤ x4
    · replace hf := x_pos c_1 hf
      refine EX.pos c_1 ?_
      obtain rfl := Option.some.inj hf
      exact ⟨_, rfl, H, F⟩
    · replace hf := x_neg c_1 hf
      refine EX.neg c_1 ?_
      refine EX.bd (H.gR 12) ?_
      obtain ⟨v_2, ev_2, hf⟩ := x_bind hf
      refine EX.bd (H.aI (by decide) ev_2) ?_
      have Hc_ := H.cv
      obtain ⟨S_4, eS_4, hf⟩ := x_bind hf
      obtain ⟨h_3, eh_3, H, F_⟩ := g203_ok H eS_4
      refine EX.bd Hc_ ?_
      refine EX.bd eh_3 ?_
      replace F := F.tr F_
      exact EX.uS F (ih H hf)
theorem g204_ok {h : xH} {m : Nat} {S : mS} {x1 : Int32} {x2 : Int32} {x3 : Int32} {r : mS} (H : RF h m S) (hf : g204 x1 x2 x3 S = some r) : EX (fn204 (some m) x1 x2 x3 h) (fun z => z) (QS m h r) := by
  have F := FM.rfl' (m := m) (h := h)
  unfold g204 at hf
  unfold fn204
  exact EX.uS F (gl204_3_ok xFuel H hf)
end
section
theorem gj205_28_ok {m : Nat} {k3 : Int64 → Int32 → mS → Option mS} {f3 : Option Nat → Int64 → Int32 → xH → Option xH} (hk3 : ∀ {h : xH} {S : mS} {w1 : Int64} {x3 : Int32} {r : mS}, RF h m S → k3 w1 x3 S = some r → EX (f3 (some m) w1 x3 h) (fun z => z) (QS m h r)) {h : xH} {S : mS} {w1 : Int64} {x3 : Int32} {x4 : Int32} {r : mS} (H : RF h m S) (hf : gj205_28 k3 w1 x3 x4 S = some r) : EX (j205_28 f3 (some m) w1 x3 x4 h) (fun z => z) (QS m h r) := by
  have F := FM.rfl' (m := m) (h := h)
  unfold gj205_28 at hf
  unfold j205_28
  exact EX.uS F (hk3 H hf)
theorem gl205_3_ok {m : Nat} : ∀ (n : Nat) {h : xH} {S : mS} {w1 : Int64} {x3 : Int32} {r : mS} (H : RF h m S), gl205_3 n w1 x3 S = some r → EX (l205_3 n (some m) w1 x3 h) (fun z => z) (QS m h r) := by
  intro n
  induction n with
  | zero => intros; rename_i hf; cases hf
  | succ n ih =>
    intro h S w1 x3 r H hf
    have F := FM.rfl' (m := m) (h := h)
    replace hf : ((if x3 < 0 then some S else (if (((w1 >>> (x3.toInt64 &&& 63)) &&& 255).toInt32) ≤ 0 then gj205_28 (gl205_3 n) w1 x3 (((w1 >>> (x3.toInt64 &&& 63)) &&& 255).toInt32) S else (g203 (((w1 >>> (x3.toInt64 &&& 63)) &&& 255).toInt32) S).bind fun S_4 => gj205_28 (gl205_3 n) w1 x3 (((w1 >>> (x3.toInt64 &&& 63)) &&& 255).toInt32) S_4))) = some r := hf
    unfold l205_3
    by_cases c_1 : x3 < 0
    · replace hf := x_pos c_1 hf
      refine EX.pos c_1 ?_
      obtain rfl := Option.some.inj hf
      exact ⟨_, rfl, H, F⟩
    · replace hf := x_neg c_1 hf
      refine EX.neg c_1 ?_
      by_cases c_2 : (((w1 >>> (x3.toInt64 &&& 63)) &&& 255).toInt32) ≤ 0
      · replace hf := x_pos c_2 hf
        refine EX.pos c_2 ?_
        exact EX.uS F (gj205_28_ok (k3 := (gl205_3 n)) (f3 := (l205_3 n)) ih H hf)
      · replace hf := x_neg c_2 hf
        refine EX.neg c_2 ?_
        have Hc_ := H.cv
        obtain ⟨S_4, eS_4, hf⟩ := x_bind hf
        obtain ⟨h_3, eh_3, H, F_⟩ := g203_ok H eS_4
        refine EX.bd Hc_ ?_
        refine EX.bd eh_3 ?_
        replace F := F.tr F_
        exact EX.uS F (gj205_28_ok (k3 := (gl205_3 n)) (f3 := (l205_3 n)) ih H hf)
theorem g205_ok {h : xH} {m : Nat} {S : mS} {w1 : Int64} {r : mS} (H : RF h m S) (hf : g205 w1 S = some r) : EX (fn205 (some m) w1 h) (fun z => z) (QS m h r) := by
  have F := FM.rfl' (m := m) (h := h)
  unfold g205 at hf
  unfold fn205
  exact EX.uS F (gl205_3_ok xFuel H hf)
end
section
theorem gj206_105_ok {m : Nat} {h : xH} {S : mS} {x1 : Int32} {r : mS} (H : RF h m S) (hf : gj206_105 x1 S = some r) : EX (j206_105 (some m) x1 h) (fun z => z) (QS m h r) := by
  have F := FM.rfl' (m := m) (h := h)
  unfold gj206_105 at hf
  unfold j206_105
  have Hc_ := H.cv
  obtain ⟨S_2, eS_2, hf⟩ := x_bind hf
  obtain ⟨h_1, eh_1, H, F_⟩ := g203_ok H eS_2
  refine EX.bd Hc_ ?_
  refine EX.bd eh_1 ?_
  replace F := F.tr F_
  obtain rfl := Option.some.inj hf
  exact ⟨_, rfl, H, F⟩
theorem gj206_92_ok {m : Nat} {h : xH} {S : mS} {x1 : Int32} {x2 : Int32} {r : mS} (H : RF h m S) (hf : gj206_92 x1 x2 S = some r) : EX (j206_92 (some m) x1 x2 h) (fun z => z) (QS m h r) := by
  have F := FM.rfl' (m := m) (h := h)
  unfold gj206_92 at hf
  unfold j206_92
  have Hc_ := H.cv
  obtain ⟨S_2, eS_2, hf⟩ := x_bind hf
  obtain ⟨h_1, eh_1, H, F_⟩ := g203_ok H eS_2
  refine EX.bd Hc_ ?_
  refine EX.bd eh_1 ?_
  replace F := F.tr F_
  exact EX.uS F (gj206_105_ok H hf)
theorem gj206_71_ok {m : Nat} {h : xH} {S : mS} {x1 : Int32} {x2 : Int32} {r : mS} (H : RF h m S) (hf : gj206_71 x1 x2 S = some r) : EX (j206_71 (some m) x1 x2 h) (fun z => z) (QS m h r) := by
  have F := FM.rfl' (m := m) (h := h)
  unfold gj206_71 at hf
  unfold j206_71
  by_cases c_1 : (x2 + 1) ≤ 9
  · replace hf := x_pos c_1 hf
    refine EX.pos c_1 ?_
    exact EX.uS F (gj206_92_ok H hf)
  · replace hf := x_neg c_1 hf
    refine EX.neg c_1 ?_
    have Hc_ := H.cv
    obtain ⟨S_3, eS_3, hf⟩ := x_bind hf
    obtain ⟨h_2, eh_2, H, F_⟩ := g203_ok H eS_3
    refine EX.bd Hc_ ?_
    refine EX.bd eh_2 ?_
    replace F := F.tr F_
    exact EX.uS F (gj206_92_ok H hf)
theorem gj206_46_ok {m : Nat} {h : xH} {S : mS} {x1 : Int32} {x2 : Int32} {r : mS} (H : RF h m S) (hf : gj206_46 x1 x2 S = some r) : EX (j206_46 (some m) x1 x2 h) (fun z => z) (QS m h r) := by
  have F := FM.rfl' (m := m) (h := h)
  unfold gj206_46 at hf
  unfold j206_46
  refine EX.bd (H.gI 51) ?_
  by_cases c_1 : x2 = (S.1 51)
  · replace hf := x_pos c_1 hf
    refine EX.pos c_1 ?_
    refine EX.bd (H.gR 50) ?_
    obtain ⟨S_2, eS_2, hf⟩ := x_bind hf
    obtain ⟨h_3, eh_3, H, F_⟩ := H.aS (by decide) eS_2
    refine EX.bd eh_3 ?_
    replace F := F.tr F_
    refine EX.bd (H.gI 51) ?_
    obtain ⟨S_4, eS_4, hf⟩ := x_bind hf
    obtain ⟨h_5, eh_5, H, F_⟩ := H.pF 51 (xfit_int _) eS_4
    refine EX.bd eh_5 ?_
    replace F := F.tr F_
    exact EX.uS F (gj206_71_ok H hf)
  · replace hf := x_neg c_1 hf
    refine EX.neg c_1 ?_
    exact EX.uS F (gj206_71_ok H hf)
theorem gl206_22_ok {m : Nat} : ∀ (n : Nat) {h : xH} {S : mS} {x1 : Int32} {x2 : Int32} {r : mS} (H : RF h m S), gl206_22 n x1 x2 S = some r → EX (l206_22 n (some m) x1 x2 h) (fun z => z) (QS m h r) := by
  intro n
  induction n with
  | zero => intros; rename_i hf; cases hf
  | succ n ih =>
    intro h S x1 x2 r H hf
    have F := FM.rfl' (m := m) (h := h)
    replace hf : ((if (S.1 51) ≤ x2 then gj206_46 x1 x2 S else (sLd S 50 x2).bind fun v_2 => (if v_2 = x1 then gj206_46 x1 x2 S else gl206_22 n x1 (x2 + 1) S))) = some r := hf
    unfold l206_22
    refine EX.bd (H.gI 51) ?_
    by_cases c_1 : (S.1 51) ≤ x2
    · replace hf := x_pos c_1 hf
      refine EX.pos c_1 ?_
      exact EX.uS F (gj206_46_ok H hf)
    · replace hf := x_neg c_1 hf
      refine EX.neg c_1 ?_
      refine EX.bd (H.gR 50) ?_
      obtain ⟨v_2, ev_2, hf⟩ := x_bind hf
      refine EX.bd (H.aI (by decide) ev_2) ?_
      by_cases c_3 : v_2 = x1
      · replace hf := x_pos c_3 hf
        refine EX.pos c_3 ?_
        exact EX.uS F (gj206_46_ok H hf)
      · replace hf := x_neg c_3 hf
        refine EX.neg c_3 ?_
        exact EX.uS F (ih H hf)
theorem g206_ok {h : xH} {m : Nat} {S : mS} {x1 : Int32} {r : mS} (H : RF h m S) (hf : g206 x1 S = some r) : EX (fn206 (some m) x1 h) (fun z => z) (QS m h r) := by
  have F := FM.rfl' (m := m) (h := h)
  unfold g206 at hf
  unfold fn206
  have Hc_ := H.cv
  obtain ⟨S_2, eS_2, hf⟩ := x_bind hf
  obtain ⟨h_1, eh_1, H, F_⟩ := g203_ok H eS_2
  refine EX.bd Hc_ ?_
  refine EX.bd eh_1 ?_
  replace F := F.tr F_
  by_cases c_3 : x1 = (-1)
  · replace hf := x_pos c_3 hf
    refine EX.pos c_3 ?_
    have Hc_ := H.cv
    obtain ⟨S_5, eS_5, hf⟩ := x_bind hf
    obtain ⟨h_4, eh_4, H, F_⟩ := g203_ok H eS_5
    refine EX.bd Hc_ ?_
    refine EX.bd eh_4 ?_
    replace F := F.tr F_
    exact EX.uS F (gj206_105_ok H hf)
  · replace hf := x_neg c_3 hf
    refine EX.neg c_3 ?_
    exact EX.uS F (gl206_22_ok xFuel H hf)
end
