section
theorem gj175_72_ok {m : Nat} {h : xH} {S : mS} {x1 : Int32} {x2 : Int32} {r : mS} (H : RF h m S) (hf : gj175_72 x1 x2 S = some r) : EX (j175_72 (some m) x1 x2 h) (fun z => z) (QS m h r) := by
  have F := FM.rfl' (m := m) (h := h)
  unfold gj175_72 at hf
  unfold j175_72
  obtain ⟨S_1, eS_1, hf⟩ := x_bind hf
  obtain ⟨h_2, eh_2, H, F_⟩ := H.pF 38 (xfit_int _) eS_1
  refine EX.bd eh_2 ?_
  replace F := F.tr F_
  obtain rfl := Option.some.inj hf
  exact ⟨_, rfl, H, F⟩
theorem gl175_6_ok {m : Nat} : ∀ (n : Nat) {h : xH} {S : mS} {x1 : Int32} {x2 : Int32} {r : mS} (H : RF h m S), gl175_6 n x1 x2 S = some r → EX (l175_6 n (some m) x1 x2 h) (fun z => z) (QS m h r) := by
  intro n
  induction n with
  | zero => intros; rename_i hf; cases hf
  | succ n ih =>
    intro h S x1 x2 r H hf
    have F := FM.rfl' (m := m) (h := h)
    replace hf : ((if (S.1 37) ≤ x2 then gj175_72 x1 x2 S else (if (S.1 31) = 0 then (g172 x2 S).bind fun r_4 => (if r_4.1 = 0 then (sLd r_4.2 15 40).bind fun v_6 => (if v_6 = 120 then (g166 4 x2 r_4.2).bind fun S_9 => gl175_6 n x1 x2 S_9 else (g176 x2 r_4.2).bind fun r_11 => (g169 r_11.1 r_11.2).bind fun r_13 => gl175_6 n x1 r_13.1 r_13.2) else (g166 2 x2 r_4.2).bind fun S_15 => gl175_6 n x1 x2 S_15) else gj175_72 x1 x2 S))) = some r := hf
    unfold l175_6
    refine EX.bd (H.gI 37) ?_
    by_cases c_1 : (S.1 37) ≤ x2
    · replace hf := x_pos c_1 hf
      refine EX.pos c_1 ?_
      exact EX.uS F (gj175_72_ok H hf)
    · replace hf := x_neg c_1 hf
      refine EX.neg c_1 ?_
      refine EX.bd (H.gI 31) ?_
      by_cases c_2 : (S.1 31) = 0
      · replace hf := x_pos c_2 hf
        refine EX.pos c_2 ?_
        have Hc_ := H.cv
        obtain ⟨r_4, er_4, hf⟩ := x_bind hf
        obtain ⟨h_3, eh_3, H, F_⟩ := g172_ok H er_4
        refine EX.bd Hc_ ?_
        refine EX.bd eh_3 ?_
        dsimp only
        replace F := F.tr F_
        by_cases c_5 : r_4.1 = 0
        · replace hf := x_pos c_5 hf
          refine EX.pos c_5 ?_
          refine EX.bd (H.gR 15) ?_
          obtain ⟨v_6, ev_6, hf⟩ := x_bind hf
          refine EX.bd (H.aI (by decide) ev_6) ?_
          by_cases c_7 : v_6 = 120
          · replace hf := x_pos c_7 hf
            refine EX.pos c_7 ?_
            have Hc_ := H.cv
            obtain ⟨S_9, eS_9, hf⟩ := x_bind hf
            obtain ⟨h_8, eh_8, H, F_⟩ := g166_ok H eS_9
            refine EX.bd Hc_ ?_
            refine EX.bd eh_8 ?_
            replace F := F.tr F_
            exact EX.uS F (ih H hf)
          · replace hf := x_neg c_7 hf
            refine EX.neg c_7 ?_
            have Hc_ := H.cv
            obtain ⟨r_11, er_11, hf⟩ := x_bind hf
            obtain ⟨h_10, eh_10, H, F_⟩ := g176_ok H er_11
            refine EX.bd Hc_ ?_
            refine EX.bd eh_10 ?_
            dsimp only
            replace F := F.tr F_
            have Hc_ := H.cv
            obtain ⟨r_13, er_13, hf⟩ := x_bind hf
            obtain ⟨h_12, eh_12, H, F_⟩ := g169_ok H er_13
            refine EX.bd Hc_ ?_
            refine EX.bd eh_12 ?_
            dsimp only
            replace F := F.tr F_
            exact EX.uS F (ih H hf)
        · replace hf := x_neg c_5 hf
          refine EX.neg c_5 ?_
          have Hc_ := H.cv
          obtain ⟨S_15, eS_15, hf⟩ := x_bind hf
          obtain ⟨h_14, eh_14, H, F_⟩ := g166_ok H eS_15
          refine EX.bd Hc_ ?_
          refine EX.bd eh_14 ?_
          replace F := F.tr F_
          exact EX.uS F (ih H hf)
      · replace hf := x_neg c_2 hf
        refine EX.neg c_2 ?_
        exact EX.uS F (gj175_72_ok H hf)
theorem g175_ok {h : xH} {m : Nat} {S : mS} {x1 : Int32} {r : mS} (H : RF h m S) (hf : g175 x1 S = some r) : EX (fn175 (some m) x1 h) (fun z => z) (QS m h r) := by
  have F := FM.rfl' (m := m) (h := h)
  unfold g175 at hf
  unfold fn175
  have Hc_ := H.cv
  obtain ⟨r_2, er_2, hf⟩ := x_bind hf
  obtain ⟨h_1, eh_1, H, F_⟩ := g169_ok H er_2
  refine EX.bd Hc_ ?_
  refine EX.bd eh_1 ?_
  dsimp only
  replace F := F.tr F_
  exact EX.uS F (gl175_6_ok xFuel H hf)
end
section
theorem gj178_23_ok {m : Nat} {h : xH} {S : mS} {x1 : Int32} {x2 : Int32} {x3 : Int32} {r : (Int32 × mS)} (H : RF h m S) (hf : gj178_23 x1 x2 x3 S = some r) : EX (j178_23 (some m) x1 x2 x3 h) (fun z => (r.1, z)) (QS m h r.2) := by
  have F := FM.rfl' (m := m) (h := h)
  unfold gj178_23 at hf
  unfold j178_23
  obtain rfl := Option.some.inj hf
  exact ⟨_, rfl, H, F⟩
theorem gl178_2_ok {m : Nat} : ∀ (n : Nat) {h : xH} {S : mS} {x1 : Int32} {x2 : Int32} {x3 : Int32} {r : (Int32 × mS)} (H : RF h m S), gl178_2 n x1 x2 x3 S = some r → EX (l178_2 n (some m) x1 x2 x3 h) (fun z => (r.1, z)) (QS m h r.2) := by
  intro n
  induction n with
  | zero => intros; rename_i hf; cases hf
  | succ n ih =>
    intro h S x1 x2 x3 r H hf
    have F := FM.rfl' (m := m) (h := h)
    replace hf : ((if x2 ≤ x3 then gj178_23 x1 x2 x3 S else (g167 x3 S).bind fun r_3 => (if r_3.1 = 10 then gj178_23 x1 x2 x3 r_3.2 else gl178_2 n x1 x2 (x3 + 1) r_3.2))) = some r := hf
    unfold l178_2
    by_cases c_1 : x2 ≤ x3
    · replace hf := x_pos c_1 hf
      refine EX.pos c_1 ?_
      exact EX.uS F (gj178_23_ok H hf)
    · replace hf := x_neg c_1 hf
      refine EX.neg c_1 ?_
      have Hc_ := H.cv
      obtain ⟨r_3, er_3, hf⟩ := x_bind hf
      obtain ⟨h_2, eh_2, H, F_⟩ := g167_ok H er_3
      refine EX.bd Hc_ ?_
      refine EX.bd eh_2 ?_
      dsimp only
      replace F := F.tr F_
      by_cases c_4 : r_3.1 = 10
      · replace hf := x_pos c_4 hf
        refine EX.pos c_4 ?_
        exact EX.uS F (gj178_23_ok H hf)
      · replace hf := x_neg c_4 hf
        refine EX.neg c_4 ?_
        exact EX.uS F (ih H hf)
theorem g178_ok {h : xH} {m : Nat} {S : mS} {x1 : Int32} {x2 : Int32} {r : (Int32 × mS)} (H : RF h m S) (hf : g178 x1 x2 S = some r) : EX (fn178 (some m) x1 x2 h) (fun z => (r.1, z)) (QS m h r.2) := by
  have F := FM.rfl' (m := m) (h := h)
  unfold g178 at hf
  unfold fn178
  exact EX.uS F (gl178_2_ok xFuel H hf)
end
section
theorem gj179_37_ok {m : Nat} {h : xH} {S : mS} {x1 : Int32} {s0 : Int32} {r : (Int32 × mS)} (H : RF h m S) (hf : gj179_37 x1 s0 S = some r) : EX (j179_37 (some m) x1 s0 h) (fun z => (r.1, z)) (QS m h r.2) := by
  have F := FM.rfl' (m := m) (h := h)
  unfold gj179_37 at hf
  unfold j179_37
  by_cases c_1 : s0 &&& 1 = s0
  · replace hf := x_pos c_1 hf
    refine EX.pos c_1 ?_
    obtain rfl := Option.some.inj hf
    exact ⟨_, rfl, H, F⟩
  · replace hf := x_neg c_1 hf
    cases hf
theorem gj179_36_ok {m : Nat} {h : xH} {S : mS} {x1 : Int32} {r : (Int32 × mS)} (H : RF h m S) (hf : gj179_36 x1 S = some r) : EX (j179_36 (some m) x1 h) (fun z => (r.1, z)) (QS m h r.2) := by
  have F := FM.rfl' (m := m) (h := h)
  unfold gj179_36 at hf
  unfold j179_36
  exact EX.uS F (gj179_37_ok H hf)
theorem gj179_32_ok {m : Nat} {h : xH} {S : mS} {x1 : Int32} {r : (Int32 × mS)} (H : RF h m S) (hf : gj179_32 x1 S = some r) : EX (j179_32 (some m) x1 h) (fun z => (r.1, z)) (QS m h r.2) := by
  have F := FM.rfl' (m := m) (h := h)
  unfold gj179_32 at hf
  unfold j179_32
  exact EX.uS F (gj179_37_ok H hf)
theorem g179_ok {h : xH} {m : Nat} {S : mS} {x1 : Int32} {r : (Int32 × mS)} (H : RF h m S) (hf : g179 x1 S = some r) : EX (fn179 (some m) x1 h) (fun z => (r.1, z)) (QS m h r.2) := by
  have F := FM.rfl' (m := m) (h := h)
  unfold g179 at hf
  unfold fn179
  have Hc_ := H.cv
  obtain ⟨r_2, er_2, hf⟩ := x_bind hf
  obtain ⟨h_1, eh_1, H, F_⟩ := g167_ok H er_2
  refine EX.bd Hc_ ?_
  refine EX.bd eh_1 ?_
  dsimp only
  replace F := F.tr F_
  by_cases c_3 : r_2.1 = 45
  · replace hf := x_pos c_3 hf
    refine EX.pos c_3 ?_
    refine EX.bd (H.gI 37) ?_
    by_cases c_4 : (x1 + 1) = (r_2.2.1 37)
    · replace hf := x_pos c_4 hf
      refine EX.pos c_4 ?_
      exact EX.uS F (gj179_32_ok H hf)
    · replace hf := x_neg c_4 hf
      refine EX.neg c_4 ?_
      have Hc_ := H.cv
      obtain ⟨r_6, er_6, hf⟩ := x_bind hf
      obtain ⟨h_5, eh_5, H, F_⟩ := g167_ok H er_6
      refine EX.bd Hc_ ?_
      refine EX.bd eh_5 ?_
      dsimp only
      replace F := F.tr F_
      by_cases c_7 : r_6.1 = 32
      · replace hf := x_pos c_7 hf
        refine EX.pos c_7 ?_
        exact EX.uS F (gj179_32_ok H hf)
      · replace hf := x_neg c_7 hf
        refine EX.neg c_7 ?_
        exact EX.uS F (gj179_36_ok H hf)
  · replace hf := x_neg c_3 hf
    refine EX.neg c_3 ?_
    exact EX.uS F (gj179_36_ok H hf)
end
section
theorem gj180_153_ok {m : Nat} {h : xH} {S : mS} {x1 : Int32} {x2 : Int32} {x3 : Int32} {x4 : Int32} {x5 : Int32} {r : mS} (H : RF h m S) (hf : gj180_153 x1 x2 x3 x4 x5 S = some r) : EX (j180_153 (some m) x1 x2 x3 x4 x5 h) (fun z => z) (QS m h r) := by
  have F := FM.rfl' (m := m) (h := h)
  unfold gj180_153 at hf
  unfold j180_153
  obtain rfl := Option.some.inj hf
  exact ⟨_, rfl, H, F⟩
theorem gj180_98_ok {m : Nat} {h : xH} {S : mS} {x1 : Int32} {x2 : Int32} {x3 : Int32} {x4 : Int32} {x5 : Int32} {r : mS} (H : RF h m S) (hf : gj180_98 x1 x2 x3 x4 x5 S = some r) : EX (j180_98 (some m) x1 x2 x3 x4 x5 h) (fun z => z) (QS m h r) := by
  have F := FM.rfl' (m := m) (h := h)
  unfold gj180_98 at hf
  unfold j180_98
  have Hc_ := H.cv
  obtain ⟨S_2, eS_2, hf⟩ := x_bind hf
  obtain ⟨h_1, eh_1, H, F_⟩ := g166_ok H eS_2
  refine EX.bd Hc_ ?_
  refine EX.bd eh_1 ?_
  replace F := F.tr F_
  exact EX.uS F (gj180_153_ok H hf)
theorem gj180_55_ok {m : Nat} {h : xH} {S : mS} {x1 : Int32} {x2 : Int32} {x3 : Int32} {s0 : Int32} {r : mS} (H : RF h m S) (hf : gj180_55 x1 x2 x3 s0 S = some r) : EX (j180_55 (some m) x1 x2 x3 s0 h) (fun z => z) (QS m h r) := by
  have F := FM.rfl' (m := m) (h := h)
  unfold gj180_55 at hf
  unfold j180_55
  refine EX.bd (H.gI 35) ?_
  by_cases c_1 : (S.1 35) = 0
  · replace hf := x_pos c_1 hf
    refine EX.pos c_1 ?_
    by_cases c_2 : (xrem x2 2) = 1
    · replace hf := x_pos c_2 hf
      refine EX.pos c_2 ?_
      exact EX.uS F (gj180_98_ok H hf)
    · replace hf := x_neg c_2 hf
      refine EX.neg c_2 ?_
      by_cases c_3 : 2 < (x2 / 2)
      · replace hf := x_pos c_3 hf
        refine EX.pos c_3 ?_
        exact EX.uS F (gj180_98_ok H hf)
      · replace hf := x_neg c_3 hf
        refine EX.neg c_3 ?_
        by_cases c_4 : (x2 / 2) ≤ s0
        · replace hf := x_pos c_4 hf
          refine EX.pos c_4 ?_
          refine EX.bd (H.gR 14) ?_
          obtain ⟨v_5, ev_5, hf⟩ := x_bind hf
          refine EX.bd (H.aI (by decide) ev_5) ?_
          by_cases c_6 : v_5 = 24
          · replace hf := x_pos c_6 hf
            refine EX.pos c_6 ?_
            have Hc_ := H.cv
            obtain ⟨S_8, eS_8, hf⟩ := x_bind hf
            obtain ⟨h_7, eh_7, H, F_⟩ := g166_ok H eS_8
            refine EX.bd Hc_ ?_
            refine EX.bd eh_7 ?_
            replace F := F.tr F_
            exact EX.uS F (gj180_153_ok H hf)
          · replace hf := x_neg c_6 hf
            refine EX.neg c_6 ?_
            have Hc_ := H.cv
            obtain ⟨S_10, eS_10, hf⟩ := x_bind hf
            obtain ⟨h_9, eh_9, H, F_⟩ := g173_ok H eS_10
            refine EX.bd Hc_ ?_
            refine EX.bd eh_9 ?_
            replace F := F.tr F_
            refine EX.bd (H.gR 23) ?_
            have Hc_ := H.cv
            obtain ⟨r_12, er_12, hf⟩ := x_bind hf
            obtain ⟨h_11, eh_11, H, F_⟩ := g174_ok H er_12
            refine EX.bd Hc_ ?_
            refine EX.bd eh_11 ?_
            dsimp only
            replace F := F.tr F_
            obtain ⟨S_13, eS_13, hf⟩ := x_bind hf
            obtain ⟨h_14, eh_14, H, F_⟩ := H.aB (by decide) eS_13
            refine EX.bd eh_14 ?_
            replace F := F.tr F_
            have Hc_ := H.cv
            obtain ⟨S_16, eS_16, hf⟩ := x_bind hf
            obtain ⟨h_15, eh_15, H, F_⟩ := g175_ok H eS_16
            refine EX.bd Hc_ ?_
            refine EX.bd eh_15 ?_
            replace F := F.tr F_
            exact EX.uS F (gj180_153_ok H hf)
        · replace hf := x_neg c_4 hf
          refine EX.neg c_4 ?_
          exact EX.uS F (gj180_98_ok H hf)
  · replace hf := x_neg c_1 hf
    refine EX.neg c_1 ?_
    have Hc_ := H.cv
    obtain ⟨S_18, eS_18, hf⟩ := x_bind hf
    obtain ⟨h_17, eh_17, H, F_⟩ := g166_ok H eS_18
    refine EX.bd Hc_ ?_
    refine EX.bd eh_17 ?_
    replace F := F.tr F_
    exact EX.uS F (gj180_153_ok H hf)
theorem gj180_35_ok {m : Nat} {h : xH} {S : mS} {x1 : Int32} {x2 : Int32} {s0 : Int32} {r : mS} (H : RF h m S) (hf : gj180_35 x1 x2 s0 S = some r) : EX (j180_35 (some m) x1 x2 s0 h) (fun z => z) (QS m h r) := by
  have F := FM.rfl' (m := m) (h := h)
  unfold gj180_35 at hf
  unfold j180_35
  by_cases c_1 : s0 = 0
  · replace hf := x_pos c_1 hf
    refine EX.pos c_1 ?_
    exact EX.uS F (gj180_55_ok H hf)
  · replace hf := x_neg c_1 hf
    refine EX.neg c_1 ?_
    refine EX.bd (H.gR 17) ?_
    have Hc_ := H.cv
    obtain ⟨r_3, er_3, hf⟩ := x_bind hf
    obtain ⟨h_2, eh_2, H, F_⟩ := g174_ok H er_3
    refine EX.bd Hc_ ?_
    refine EX.bd eh_2 ?_
    dsimp only
    replace F := F.tr F_
    obtain ⟨v_4, ev_4, hf⟩ := x_bind hf
    refine EX.bd (H.aI (by decide) ev_4) ?_
    exact EX.uS F (gj180_55_ok H hf)
theorem gj180_34_ok {m : Nat} {h : xH} {S : mS} {x1 : Int32} {x2 : Int32} {r : mS} (H : RF h m S) (hf : gj180_34 x1 x2 S = some r) : EX (j180_34 (some m) x1 x2 h) (fun z => z) (QS m h r) := by
  have F := FM.rfl' (m := m) (h := h)
  unfold gj180_34 at hf
  unfold j180_34
  exact EX.uS F (gj180_35_ok H hf)
theorem g180_ok {h : xH} {m : Nat} {S : mS} {x1 : Int32} {x2 : Int32} {r : mS} (H : RF h m S) (hf : g180 x1 x2 S = some r) : EX (fn180 (some m) x1 x2 h) (fun z => z) (QS m h r) := by
  have F := FM.rfl' (m := m) (h := h)
  unfold g180 at hf
  unfold fn180
  refine EX.bd (H.gR 14) ?_
  obtain ⟨v_1, ev_1, hf⟩ := x_bind hf
  refine EX.bd (H.aI (by decide) ev_1) ?_
  by_cases c_2 : v_1 ≤ 0
  · replace hf := x_pos c_2 hf
    refine EX.pos c_2 ?_
    exact EX.uS F (gj180_34_ok H hf)
  · replace hf := x_neg c_2 hf
    refine EX.neg c_2 ?_
    refine EX.bd (H.gI 36) ?_
    by_cases c_3 : (S.1 36) = 0
    · replace hf := x_pos c_3 hf
      refine EX.pos c_3 ?_
      refine EX.bd (H.gR 16) ?_
      have Hc_ := H.cv
      obtain ⟨r_5, er_5, hf⟩ := x_bind hf
      obtain ⟨h_4, eh_4, H, F_⟩ := g174_ok H er_5
      refine EX.bd Hc_ ?_
      refine EX.bd eh_4 ?_
      dsimp only
      replace F := F.tr F_
      obtain ⟨v_6, ev_6, hf⟩ := x_bind hf
      refine EX.bd (H.aI (by decide) ev_6) ?_
      by_cases c_7 : v_6 = 1
      · replace hf := x_pos c_7 hf
        refine EX.pos c_7 ?_
        exact EX.uS F (gj180_35_ok H hf)
      · replace hf := x_neg c_7 hf
        refine EX.neg c_7 ?_
        exact EX.uS F (gj180_34_ok H hf)
    · replace hf := x_neg c_3 hf
      refine EX.neg c_3 ?_
      exact EX.uS F (gj180_34_ok H hf)
end
section
theorem gj182_89_ok {m : Nat} {h : xH} {S : mS} {x1 : Int32} {x2 : Int32} {x3 : Int32} {x4 : Int32} {r : (Int32 × mS)} (H : RF h m S) (hf : gj182_89 x1 x2 x3 x4 S = some r) : EX (j182_89 (some m) x1 x2 x3 x4 h) (fun z => (r.1, z)) (QS m h r.2) := by
  have F := FM.rfl' (m := m) (h := h)
  unfold gj182_89 at hf
  unfold j182_89
  obtain ⟨S_1, eS_1, hf⟩ := x_bind hf
  obtain ⟨h_2, eh_2, H, F_⟩ := H.pF 37 (xfit_int _) eS_1
  refine EX.bd eh_2 ?_
  replace F := F.tr F_
  by_cases c_3 : x4 &&& 1 = x4
  · replace hf := x_pos c_3 hf
    refine EX.pos c_3 ?_
    obtain rfl := Option.some.inj hf
    exact ⟨_, rfl, H, F⟩
  · replace hf := x_neg c_3 hf
    cases hf
theorem gj182_87_ok {m : Nat} {h : xH} {S : mS} {x1 : Int32} {x2 : Int32} {x3 : Int32} {x4 : Int32} {x5 : Int32} {s0 : Int32} {r : (Int32 × mS)} (H : RF h m S) (hf : gj182_87 x1 x2 x3 x4 x5 s0 S = some r) : EX (j182_87 (some m) x1 x2 x3 x4 x5 s0 h) (fun z => (r.1, z)) (QS m h r.2) := by
  have F := FM.rfl' (m := m) (h := h)
  unfold gj182_87 at hf
  unfold j182_87
  exact EX.uS F (gj182_89_ok H hf)
theorem gj182_82_ok {m : Nat} {h : xH} {S : mS} {x1 : Int32} {x2 : Int32} {x3 : Int32} {x4 : Int32} {x5 : Int32} {r : (Int32 × mS)} (H : RF h m S) (hf : gj182_82 x1 x2 x3 x4 x5 S = some r) : EX (j182_82 (some m) x1 x2 x3 x4 x5 h) (fun z => (r.1, z)) (QS m h r.2) := by
  have F := FM.rfl' (m := m) (h := h)
  unfold gj182_82 at hf
  unfold j182_82
  exact EX.uS F (gj182_87_ok H hf)
theorem g182_ok {h : xH} {m : Nat} {S : mS} {x1 : Int32} {x2 : Int32} {r : (Int32 × mS)} (H : RF h m S) (hf : g182 x1 x2 S = some r) : EX (fn182 (some m) x1 x2 h) (fun z => (r.1, z)) (QS m h r.2) := by
  have F := FM.rfl' (m := m) (h := h)
  unfold g182 at hf
  unfold fn182
  have Hc_ := H.cv
  obtain ⟨r_2, er_2, hf⟩ := x_bind hf
  obtain ⟨h_1, eh_1, H, F_⟩ := g169_ok H er_2
  refine EX.bd Hc_ ?_
  refine EX.bd eh_1 ?_
  dsimp only
  replace F := F.tr F_
  refine EX.bd (H.gI 37) ?_
  by_cases c_3 : (r_2.2.1 37) ≤ r_2.1
  · replace hf := x_pos c_3 hf
    refine EX.pos c_3 ?_
    refine EX.bd (H.gI 37) ?_
    by_cases c_4 : x2 ≤ ((r_2.2.1 37) + 1)
    · replace hf := x_pos c_4 hf
      refine EX.pos c_4 ?_
      exact EX.uS F (gj182_89_ok H hf)
    · replace hf := x_neg c_4 hf
      refine EX.neg c_4 ?_
      have Hc_ := H.cv
      obtain ⟨r_6, er_6, hf⟩ := x_bind hf
      obtain ⟨h_5, eh_5, H, F_⟩ := g178_ok H er_6
      refine EX.bd Hc_ ?_
      refine EX.bd eh_5 ?_
      dsimp only
      replace F := F.tr F_
      obtain ⟨S_7, eS_7, hf⟩ := x_bind hf
      obtain ⟨h_8, eh_8, H, F_⟩ := H.pF 37 (xfit_int _) eS_7
      refine EX.bd eh_8 ?_
      replace F := F.tr F_
      have Hc_ := H.cv
      obtain ⟨r_10, er_10, hf⟩ := x_bind hf
      obtain ⟨h_9, eh_9, H, F_⟩ := g169_ok H er_10
      refine EX.bd Hc_ ?_
      refine EX.bd eh_9 ?_
      dsimp only
      replace F := F.tr F_
      refine EX.bd (H.gI 37) ?_
      by_cases c_11 : r_10.1 = (r_10.2.1 37)
      · replace hf := x_pos c_11 hf
        refine EX.pos c_11 ?_
        exact EX.uS F (gj182_82_ok H hf)
      · replace hf := x_neg c_11 hf
        refine EX.neg c_11 ?_
        have Hc_ := H.cv
        obtain ⟨r_13, er_13, hf⟩ := x_bind hf
        obtain ⟨h_12, eh_12, H, F_⟩ := g167_ok H er_13
        refine EX.bd Hc_ ?_
        refine EX.bd eh_12 ?_
        dsimp only
        replace F := F.tr F_
        by_cases c_14 : r_13.1 = 64
        · replace hf := x_pos c_14 hf
          refine EX.pos c_14 ?_
          exact EX.uS F (gj182_82_ok H hf)
        · replace hf := x_neg c_14 hf
          refine EX.neg c_14 ?_
          have Hc_ := H.cv
          obtain ⟨r_16, er_16, hf⟩ := x_bind hf
          obtain ⟨h_15, eh_15, H, F_⟩ := g179_ok H er_16
          refine EX.bd Hc_ ?_
          refine EX.bd eh_15 ?_
          dsimp only
          replace F := F.tr F_
          by_cases c_17 : r_16.1 = 0
          · replace hf := x_pos c_17 hf
            refine EX.pos c_17 ?_
            exact EX.uS F (gj182_87_ok H hf)
          · replace hf := x_neg c_17 hf
            refine EX.neg c_17 ?_
            exact EX.uS F (gj182_82_ok H hf)
  · replace hf := x_neg c_3 hf
    refine EX.neg c_3 ?_
    obtain rfl := Option.some.inj hf
    exact ⟨_, rfl, H, F⟩
end
section
theorem gj181_238_ok {m : Nat} {h : xH} {S : mS} {x1 : Int32} {x2 : Int32} {x3 : Int32} {x4 : Int32} {r : mS} (H : RF h m S) (hf : gj181_238 x1 x2 x3 x4 S = some r) : EX (j181_238 (some m) x1 x2 x3 x4 h) (fun z => z) (QS m h r) := by
  have F := FM.rfl' (m := m) (h := h)
  unfold gj181_238 at hf
  unfold j181_238
  obtain rfl := Option.some.inj hf
  exact ⟨_, rfl, H, F⟩
theorem gj181_209_ok {m : Nat} {k175 : Int32 → Int32 → Int32 → Int32 → Int32 → mS → Option mS} {f175 : Option Nat → Int32 → Int32 → Int32 → Int32 → Int32 → xH → Option xH} (hk175 : ∀ {h : xH} {S : mS} {x1 : Int32} {x2 : Int32} {x3 : Int32} {x4 : Int32} {x5 : Int32} {r : mS}, RF h m S → k175 x1 x2 x3 x4 x5 S = some r → EX (f175 (some m) x1 x2 x3 x4 x5 h) (fun z => z) (QS m h r)) {h : xH} {S : mS} {x1 : Int32} {x2 : Int32} {x3 : Int32} {x4 : Int32} {x5 : Int32} {r : mS} (H : RF h m S) (hf : gj181_209 k175 x1 x2 x3 x4 x5 S = some r) : EX (j181_209 f175 (some m) x1 x2 x3 x4 x5 h) (fun z => z) (QS m h r) := by
  have F := FM.rfl' (m := m) (h := h)
  unfold gj181_209 at hf
  unfold j181_209
  exact EX.uS F (hk175 H hf)
theorem gl181_175_ok {m : Nat} : ∀ (n : Nat) {h : xH} {S : mS} {x1 : Int32} {x2 : Int32} {x3 : Int32} {x4 : Int32} {x5 : Int32} {r : mS} (H : RF h m S), gl181_175 n x1 x2 x3 x4 x5 S = some r → EX (l181_175 n (some m) x1 x2 x3 x4 x5 h) (fun z => z) (QS m h r) := by
  intro n
  induction n with
  | zero => intros; rename_i hf; cases hf
  | succ n ih =>
    intro h S x1 x2 x3 x4 x5 r H hf
    have F := FM.rfl' (m := m) (h := h)
    replace hf : ((sLd S 14 40).bind fun v_1 => (if v_1 ≤ x5 then (g173 7 0 x1 S).bind fun S_4 => gj181_238 x1 x2 x3 x4 S_4 else (sLd S 16 (960 + x5)).bind fun v_5 => (if v_5 = 7 then (g166 5 x1 S).bind fun S_8 => gj181_209 (gl181_175 n) x1 x2 x3 x4 x5 S_8 else gj181_209 (gl181_175 n) x1 x2 x3 x4 x5 S))) = some r := hf
    unfold l181_175
    refine EX.bd (H.gR 14) ?_
    obtain ⟨v_1, ev_1, hf⟩ := x_bind hf
    refine EX.bd (H.aI (by decide) ev_1) ?_
    by_cases c_2 : v_1 ≤ x5
    · replace hf := x_pos c_2 hf
      refine EX.pos c_2 ?_
      have Hc_ := H.cv
      obtain ⟨S_4, eS_4, hf⟩ := x_bind hf
      obtain ⟨h_3, eh_3, H, F_⟩ := g173_ok H eS_4
      refine EX.bd Hc_ ?_
      refine EX.bd eh_3 ?_
      replace F := F.tr F_
      exact EX.uS F (gj181_238_ok H hf)
    · replace hf := x_neg c_2 hf
      refine EX.neg c_2 ?_
      refine EX.bd (H.gR 16) ?_
      obtain ⟨v_5, ev_5, hf⟩ := x_bind hf
      refine EX.bd (H.aI (by decide) ev_5) ?_
      by_cases c_6 : v_5 = 7
      · replace hf := x_pos c_6 hf
        refine EX.pos c_6 ?_
        have Hc_ := H.cv
        obtain ⟨S_8, eS_8, hf⟩ := x_bind hf
        obtain ⟨h_7, eh_7, H, F_⟩ := g166_ok H eS_8
        refine EX.bd Hc_ ?_
        refine EX.bd eh_7 ?_
        replace F := F.tr F_
        exact EX.uS F (gj181_209_ok (k175 := (gl181_175 n)) (f175 := (l181_175 n)) ih H hf)
      · replace hf := x_neg c_6 hf
        refine EX.neg c_6 ?_
        exact EX.uS F (gj181_209_ok (k175 := (gl181_175 n)) (f175 := (l181_175 n)) ih H hf)
theorem gj181_146_ok {m : Nat} {h : xH} {S : mS} {x1 : Int32} {x2 : Int32} {x3 : Int32} {x4 : Int32} {r : mS} (H : RF h m S) (hf : gj181_146 x1 x2 x3 x4 S = some r) : EX (j181_146 (some m) x1 x2 x3 x4 h) (fun z => z) (QS m h r) := by
  have F := FM.rfl' (m := m) (h := h)
  unfold gj181_146 at hf
  unfold j181_146
  refine EX.bd (H.gR 14) ?_
  obtain ⟨v_1, ev_1, hf⟩ := x_bind hf
  refine EX.bd (H.aI (by decide) ev_1) ?_
  by_cases c_2 : v_1 = 24
  · replace hf := x_pos c_2 hf
    refine EX.pos c_2 ?_
    have Hc_ := H.cv
    obtain ⟨S_4, eS_4, hf⟩ := x_bind hf
    obtain ⟨h_3, eh_3, H, F_⟩ := g166_ok H eS_4
    refine EX.bd Hc_ ?_
    refine EX.bd eh_3 ?_
    replace F := F.tr F_
    exact EX.uS F (gj181_238_ok H hf)
  · replace hf := x_neg c_2 hf
    refine EX.neg c_2 ?_
    by_cases c_5 : x4 = 0
    · replace hf := x_pos c_5 hf
      refine EX.pos c_5 ?_
      have Hc_ := H.cv
      obtain ⟨S_7, eS_7, hf⟩ := x_bind hf
      obtain ⟨h_6, eh_6, H, F_⟩ := g173_ok H eS_7
      refine EX.bd Hc_ ?_
      refine EX.bd eh_6 ?_
      replace F := F.tr F_
      have Hc_ := H.cv
      obtain ⟨S_9, eS_9, hf⟩ := x_bind hf
      obtain ⟨h_8, eh_8, H, F_⟩ := g175_ok H eS_9
      refine EX.bd Hc_ ?_
      refine EX.bd eh_8 ?_
      replace F := F.tr F_
      exact EX.uS F (gj181_238_ok H hf)
    · replace hf := x_neg c_5 hf
      refine EX.neg c_5 ?_
      exact EX.uS F (gl181_175_ok xFuel H hf)
theorem gj181_137_ok {m : Nat} {h : xH} {S : mS} {x1 : Int32} {x2 : Int32} {x3 : Int32} {x4 : Int32} {r : mS} (H : RF h m S) (hf : gj181_137 x1 x2 x3 x4 S = some r) : EX (j181_137 (some m) x1 x2 x3 x4 h) (fun z => z) (QS m h r) := by
  have F := FM.rfl' (m := m) (h := h)
  unfold gj181_137 at hf
  unfold j181_137
  have Hc_ := H.cv
  obtain ⟨S_2, eS_2, hf⟩ := x_bind hf
  obtain ⟨h_1, eh_1, H, F_⟩ := g166_ok H eS_2
  refine EX.bd Hc_ ?_
  refine EX.bd eh_1 ?_
  replace F := F.tr F_
  exact EX.uS F (gj181_238_ok H hf)
theorem gj181_115_ok {m : Nat} {h : xH} {S : mS} {x1 : Int32} {x2 : Int32} {x3 : Int32} {s0 : Int32} {r : mS} (H : RF h m S) (hf : gj181_115 x1 x2 x3 s0 S = some r) : EX (j181_115 (some m) x1 x2 x3 s0 h) (fun z => z) (QS m h r) := by
  have F := FM.rfl' (m := m) (h := h)
  unfold gj181_115 at hf
  unfold j181_115
  refine EX.bd (H.gI 35) ?_
  by_cases c_1 : (S.1 35) = 0
  · replace hf := x_pos c_1 hf
    refine EX.pos c_1 ?_
    by_cases c_2 : s0 = 0
    · replace hf := x_pos c_2 hf
      refine EX.pos c_2 ?_
      have Hc_ := H.cv
      obtain ⟨r_4, er_4, hf⟩ := x_bind hf
      obtain ⟨h_3, eh_3, H, F_⟩ := g172_ok H er_4
      refine EX.bd Hc_ ?_
      refine EX.bd eh_3 ?_
      dsimp only
      replace F := F.tr F_
      by_cases c_5 : r_4.1 = 0
      · replace hf := x_pos c_5 hf
        refine EX.pos c_5 ?_
        exact EX.uS F (gj181_146_ok H hf)
      · replace hf := x_neg c_5 hf
        refine EX.neg c_5 ?_
        exact EX.uS F (gj181_137_ok H hf)
    · replace hf := x_neg c_2 hf
      refine EX.neg c_2 ?_
      exact EX.uS F (gj181_146_ok H hf)
  · replace hf := x_neg c_1 hf
    refine EX.neg c_1 ?_
    exact EX.uS F (gj181_137_ok H hf)
theorem gj181_114_ok {m : Nat} {h : xH} {S : mS} {x1 : Int32} {x2 : Int32} {x3 : Int32} {r : mS} (H : RF h m S) (hf : gj181_114 x1 x2 x3 S = some r) : EX (j181_114 (some m) x1 x2 x3 h) (fun z => z) (QS m h r) := by
  have F := FM.rfl' (m := m) (h := h)
  unfold gj181_114 at hf
  unfold j181_114
  exact EX.uS F (gj181_115_ok H hf)
theorem gj181_65_ok {m : Nat} {h : xH} {S : mS} {x1 : Int32} {x2 : Int32} {x3 : Int32} {x4 : Int32} {r : mS} (H : RF h m S) (hf : gj181_65 x1 x2 x3 x4 S = some r) : EX (j181_65 (some m) x1 x2 x3 x4 h) (fun z => z) (QS m h r) := by
  have F := FM.rfl' (m := m) (h := h)
  unfold gj181_65 at hf
  unfold j181_65
  obtain rfl := Option.some.inj hf
  exact ⟨_, rfl, H, F⟩
theorem gj181_51_ok {m : Nat} {h : xH} {S : mS} {x1 : Int32} {x2 : Int32} {x3 : Int32} {x4 : Int32} {r : mS} (H : RF h m S) (hf : gj181_51 x1 x2 x3 x4 S = some r) : EX (j181_51 (some m) x1 x2 x3 x4 h) (fun z => z) (QS m h r) := by
  have F := FM.rfl' (m := m) (h := h)
  unfold gj181_51 at hf
  unfold j181_51
  have Hc_ := H.cv
  obtain ⟨S_2, eS_2, hf⟩ := x_bind hf
  obtain ⟨h_1, eh_1, H, F_⟩ := g166_ok H eS_2
  refine EX.bd Hc_ ?_
  refine EX.bd eh_1 ?_
  replace F := F.tr F_
  exact EX.uS F (gj181_65_ok H hf)
theorem gj181_22_ok {m : Nat} {h : xH} {S : mS} {x1 : Int32} {x2 : Int32} {s0 : Int32} {r : mS} (H : RF h m S) (hf : gj181_22 x1 x2 s0 S = some r) : EX (j181_22 (some m) x1 x2 s0 h) (fun z => z) (QS m h r) := by
  have F := FM.rfl' (m := m) (h := h)
  unfold gj181_22 at hf
  unfold j181_22
  by_cases c_1 : s0 = 0
  · replace hf := x_pos c_1 hf
    refine EX.pos c_1 ?_
    refine EX.bd (H.gR 16) ?_
    have Hc_ := H.cv
    obtain ⟨r_3, er_3, hf⟩ := x_bind hf
    obtain ⟨h_2, eh_2, H, F_⟩ := g174_ok H er_3
    refine EX.bd Hc_ ?_
    refine EX.bd eh_2 ?_
    dsimp only
    replace F := F.tr F_
    obtain ⟨v_4, ev_4, hf⟩ := x_bind hf
    refine EX.bd (H.aI (by decide) ev_4) ?_
    by_cases c_5 : v_4 = 5
    · replace hf := x_pos c_5 hf
      refine EX.pos c_5 ?_
      exact EX.uS F (gj181_51_ok H hf)
    · replace hf := x_neg c_5 hf
      refine EX.neg c_5 ?_
      by_cases c_6 : v_4 = 6
      · replace hf := x_pos c_6 hf
        refine EX.pos c_6 ?_
        exact EX.uS F (gj181_51_ok H hf)
      · replace hf := x_neg c_6 hf
        refine EX.neg c_6 ?_
        have Hc_ := H.cv
        obtain ⟨S_8, eS_8, hf⟩ := x_bind hf
        obtain ⟨h_7, eh_7, H, F_⟩ := g175_ok H eS_8
        refine EX.bd Hc_ ?_
        refine EX.bd eh_7 ?_
        replace F := F.tr F_
        exact EX.uS F (gj181_65_ok H hf)
  · replace hf := x_neg c_1 hf
    refine EX.neg c_1 ?_
    have Hc_ := H.cv
    obtain ⟨r_10, er_10, hf⟩ := x_bind hf
    obtain ⟨h_9, eh_9, H, F_⟩ := g168_ok H er_10
    refine EX.bd Hc_ ?_
    refine EX.bd eh_9 ?_
    dsimp only
    replace F := F.tr F_
    by_cases c_11 : r_10.1 = 0
    · replace hf := x_pos c_11 hf
      refine EX.pos c_11 ?_
      exact EX.uS F (gj181_114_ok H hf)
    · replace hf := x_neg c_11 hf
      refine EX.neg c_11 ?_
      have Hc_ := H.cv
      obtain ⟨r_13, er_13, hf⟩ := x_bind hf
      obtain ⟨h_12, eh_12, H, F_⟩ := g168_ok H er_13
      refine EX.bd Hc_ ?_
      refine EX.bd eh_12 ?_
      dsimp only
      replace F := F.tr F_
      by_cases c_14 : r_13.1 = 0
      · replace hf := x_pos c_14 hf
        refine EX.pos c_14 ?_
        exact EX.uS F (gj181_114_ok H hf)
      · replace hf := x_neg c_14 hf
        refine EX.neg c_14 ?_
        refine EX.bd (H.gI 34) ?_
        by_cases c_15 : (r_13.2.1 34) = 0
        · replace hf := x_pos c_15 hf
          refine EX.pos c_15 ?_
          exact EX.uS F (gj181_114_ok H hf)
        · replace hf := x_neg c_15 hf
          refine EX.neg c_15 ?_
          have Hc_ := H.cv
          obtain ⟨r_17, er_17, hf⟩ := x_bind hf
          obtain ⟨h_16, eh_16, H, F_⟩ := g182_ok H er_17
          refine EX.bd Hc_ ?_
          refine EX.bd eh_16 ?_
          dsimp only
          replace F := F.tr F_
          by_cases c_18 : r_17.1 = 0
          · replace hf := x_pos c_18 hf
            refine EX.pos c_18 ?_
            exact EX.uS F (gj181_114_ok H hf)
          · replace hf := x_neg c_18 hf
            refine EX.neg c_18 ?_
            exact EX.uS F (gj181_115_ok H hf)
theorem gj181_17_ok {m : Nat} {h : xH} {S : mS} {x1 : Int32} {x2 : Int32} {r : mS} (H : RF h m S) (hf : gj181_17 x1 x2 S = some r) : EX (j181_17 (some m) x1 x2 h) (fun z => z) (QS m h r) := by
  have F := FM.rfl' (m := m) (h := h)
  unfold gj181_17 at hf
  unfold j181_17
  exact EX.uS F (gj181_22_ok H hf)
theorem g181_ok {h : xH} {m : Nat} {S : mS} {x1 : Int32} {x2 : Int32} {r : mS} (H : RF h m S) (hf : g181 x1 x2 S = some r) : EX (fn181 (some m) x1 x2 h) (fun z => z) (QS m h r) := by
  have F := FM.rfl' (m := m) (h := h)
  unfold g181 at hf
  unfold fn181
  refine EX.bd (H.gR 14) ?_
  obtain ⟨v_1, ev_1, hf⟩ := x_bind hf
  refine EX.bd (H.aI (by decide) ev_1) ?_
  by_cases c_2 : v_1 = 0
  · replace hf := x_pos c_2 hf
    refine EX.pos c_2 ?_
    exact EX.uS F (gj181_17_ok H hf)
  · replace hf := x_neg c_2 hf
    refine EX.neg c_2 ?_
    refine EX.bd (H.gI 36) ?_
    by_cases c_3 : (S.1 36) = 0
    · replace hf := x_pos c_3 hf
      refine EX.pos c_3 ?_
      exact EX.uS F (gj181_22_ok H hf)
    · replace hf := x_neg c_3 hf
      refine EX.neg c_3 ?_
      exact EX.uS F (gj181_17_ok H hf)
end
section
theorem gj183_147_ok {m : Nat} {h : xH} {S : mS} {x1 : Int32} {x2 : Int32} {x3 : Int32} {x4 : Int32} {s0 : Int32} {r : (Int32 × mS)} (H : RF h m S) (hf : gj183_147 x1 x2 x3 x4 s0 S = some r) : EX (j183_147 (some m) x1 x2 x3 x4 s0 h) (fun z => (r.1, z)) (QS m h r.2) := by
  have F := FM.rfl' (m := m) (h := h)
  unfold gj183_147 at hf
  unfold j183_147
  obtain rfl := Option.some.inj hf
  exact ⟨_, rfl, H, F⟩
theorem gj183_145_ok {m : Nat} {h : xH} {S : mS} {x1 : Int32} {x2 : Int32} {x3 : Int32} {x4 : Int32} {r : (Int32 × mS)} (H : RF h m S) (hf : gj183_145 x1 x2 x3 x4 S = some r) : EX (j183_145 (some m) x1 x2 x3 x4 h) (fun z => (r.1, z)) (QS m h r.2) := by
  have F := FM.rfl' (m := m) (h := h)
  unfold gj183_145 at hf
  unfold j183_145
  exact EX.uS F (gj183_147_ok H hf)
theorem gj183_119_ok {m : Nat} {h : xH} {S : mS} {x1 : Int32} {x2 : Int32} {x3 : Int32} {x4 : Int32} {s0 : Int32} {r : (Int32 × mS)} (H : RF h m S) (hf : gj183_119 x1 x2 x3 x4 s0 S = some r) : EX (j183_119 (some m) x1 x2 x3 x4 s0 h) (fun z => (r.1, z)) (QS m h r.2) := by
  have F := FM.rfl' (m := m) (h := h)
  unfold gj183_119 at hf
  unfold j183_119
  by_cases c_1 : x3 = 5
  · replace hf := x_pos c_1 hf
    refine EX.pos c_1 ?_
    have Hc_ := H.cv
    obtain ⟨r_3, er_3, hf⟩ := x_bind hf
    obtain ⟨h_2, eh_2, H, F_⟩ := g168_ok H er_3
    refine EX.bd Hc_ ?_
    refine EX.bd eh_2 ?_
    dsimp only
    replace F := F.tr F_
    by_cases c_4 : r_3.1 = 0
    · replace hf := x_pos c_4 hf
      refine EX.pos c_4 ?_
      exact EX.uS F (gj183_145_ok H hf)
    · replace hf := x_neg c_4 hf
      refine EX.neg c_4 ?_
      exact EX.uS F (gj183_147_ok H hf)
  · replace hf := x_neg c_1 hf
    refine EX.neg c_1 ?_
    exact EX.uS F (gj183_145_ok H hf)
theorem gj183_117_ok {m : Nat} {h : xH} {S : mS} {x1 : Int32} {x2 : Int32} {x3 : Int32} {x4 : Int32} {r : (Int32 × mS)} (H : RF h m S) (hf : gj183_117 x1 x2 x3 x4 S = some r) : EX (j183_117 (some m) x1 x2 x3 x4 h) (fun z => (r.1, z)) (QS m h r.2) := by
  have F := FM.rfl' (m := m) (h := h)
  unfold gj183_117 at hf
  unfold j183_117
  exact EX.uS F (gj183_119_ok H hf)
theorem gj183_92_ok {m : Nat} {h : xH} {S : mS} {x1 : Int32} {x2 : Int32} {x3 : Int32} {x4 : Int32} {s0 : Int32} {r : (Int32 × mS)} (H : RF h m S) (hf : gj183_92 x1 x2 x3 x4 s0 S = some r) : EX (j183_92 (some m) x1 x2 x3 x4 s0 h) (fun z => (r.1, z)) (QS m h r.2) := by
  have F := FM.rfl' (m := m) (h := h)
  unfold gj183_92 at hf
  unfold j183_92
  by_cases c_1 : x3 = 3
  · replace hf := x_pos c_1 hf
    refine EX.pos c_1 ?_
    have Hc_ := H.cv
    obtain ⟨r_3, er_3, hf⟩ := x_bind hf
    obtain ⟨h_2, eh_2, H, F_⟩ := g168_ok H er_3
    refine EX.bd Hc_ ?_
    refine EX.bd eh_2 ?_
    dsimp only
    replace F := F.tr F_
    by_cases c_4 : r_3.1 = 0
    · replace hf := x_pos c_4 hf
      refine EX.pos c_4 ?_
      exact EX.uS F (gj183_117_ok H hf)
    · replace hf := x_neg c_4 hf
      refine EX.neg c_4 ?_
      exact EX.uS F (gj183_119_ok H hf)
  · replace hf := x_neg c_1 hf
    refine EX.neg c_1 ?_
    exact EX.uS F (gj183_117_ok H hf)
theorem gj183_90_ok {m : Nat} {h : xH} {S : mS} {x1 : Int32} {x2 : Int32} {x3 : Int32} {x4 : Int32} {r : (Int32 × mS)} (H : RF h m S) (hf : gj183_90 x1 x2 x3 x4 S = some r) : EX (j183_90 (some m) x1 x2 x3 x4 h) (fun z => (r.1, z)) (QS m h r.2) := by
  have F := FM.rfl' (m := m) (h := h)
  unfold gj183_90 at hf
  unfold j183_90
  exact EX.uS F (gj183_92_ok H hf)
theorem gj183_63_ok {m : Nat} {h : xH} {S : mS} {x1 : Int32} {x2 : Int32} {x3 : Int32} {x4 : Int32} {s0 : Int32} {r : (Int32 × mS)} (H : RF h m S) (hf : gj183_63 x1 x2 x3 x4 s0 S = some r) : EX (j183_63 (some m) x1 x2 x3 x4 s0 h) (fun z => (r.1, z)) (QS m h r.2) := by
  have F := FM.rfl' (m := m) (h := h)
  unfold gj183_63 at hf
  unfold j183_63
  by_cases c_1 : x3 = 6
  · replace hf := x_pos c_1 hf
    refine EX.pos c_1 ?_
    have Hc_ := H.cv
    obtain ⟨r_3, er_3, hf⟩ := x_bind hf
    obtain ⟨h_2, eh_2, H, F_⟩ := g168_ok H er_3
    refine EX.bd Hc_ ?_
    refine EX.bd eh_2 ?_
    dsimp only
    replace F := F.tr F_
    by_cases c_4 : r_3.1 = 0
    · replace hf := x_pos c_4 hf
      refine EX.pos c_4 ?_
      exact EX.uS F (gj183_90_ok H hf)
    · replace hf := x_neg c_4 hf
      refine EX.neg c_4 ?_
      exact EX.uS F (gj183_92_ok H hf)
  · replace hf := x_neg c_1 hf
    refine EX.neg c_1 ?_
    exact EX.uS F (gj183_90_ok H hf)
theorem gj183_61_ok {m : Nat} {h : xH} {S : mS} {x1 : Int32} {x2 : Int32} {x3 : Int32} {x4 : Int32} {r : (Int32 × mS)} (H : RF h m S) (hf : gj183_61 x1 x2 x3 x4 S = some r) : EX (j183_61 (some m) x1 x2 x3 x4 h) (fun z => (r.1, z)) (QS m h r.2) := by
  have F := FM.rfl' (m := m) (h := h)
  unfold gj183_61 at hf
  unfold j183_61
  exact EX.uS F (gj183_63_ok H hf)
theorem gj183_34_ok {m : Nat} {h : xH} {S : mS} {x1 : Int32} {x2 : Int32} {x3 : Int32} {x4 : Int32} {s0 : Int32} {r : (Int32 × mS)} (H : RF h m S) (hf : gj183_34 x1 x2 x3 x4 s0 S = some r) : EX (j183_34 (some m) x1 x2 x3 x4 s0 h) (fun z => (r.1, z)) (QS m h r.2) := by
  have F := FM.rfl' (m := m) (h := h)
  unfold gj183_34 at hf
  unfold j183_34
  by_cases c_1 : x3 = 6
  · replace hf := x_pos c_1 hf
    refine EX.pos c_1 ?_
    have Hc_ := H.cv
    obtain ⟨r_3, er_3, hf⟩ := x_bind hf
    obtain ⟨h_2, eh_2, H, F_⟩ := g168_ok H er_3
    refine EX.bd Hc_ ?_
    refine EX.bd eh_2 ?_
    dsimp only
    replace F := F.tr F_
    by_cases c_4 : r_3.1 = 0
    · replace hf := x_pos c_4 hf
      refine EX.pos c_4 ?_
      exact EX.uS F (gj183_61_ok H hf)
    · replace hf := x_neg c_4 hf
      refine EX.neg c_4 ?_
      exact EX.uS F (gj183_63_ok H hf)
  · replace hf := x_neg c_1 hf
    refine EX.neg c_1 ?_
    exact EX.uS F (gj183_61_ok H hf)
theorem gj183_32_ok {m : Nat} {h : xH} {S : mS} {x1 : Int32} {x2 : Int32} {x3 : Int32} {x4 : Int32} {r : (Int32 × mS)} (H : RF h m S) (hf : gj183_32 x1 x2 x3 x4 S = some r) : EX (j183_32 (some m) x1 x2 x3 x4 h) (fun z => (r.1, z)) (QS m h r.2) := by
  have F := FM.rfl' (m := m) (h := h)
  unfold gj183_32 at hf
  unfold j183_32
  exact EX.uS F (gj183_34_ok H hf)
theorem g183_ok {h : xH} {m : Nat} {S : mS} {x1 : Int32} {x2 : Int32} {r : (Int32 × mS)} (H : RF h m S) (hf : g183 x1 x2 S = some r) : EX (fn183 (some m) x1 x2 h) (fun z => (r.1, z)) (QS m h r.2) := by
  have F := FM.rfl' (m := m) (h := h)
  unfold g183 at hf
  unfold fn183
  by_cases c_1 : ((x2 - x1) - 1) = 5
  · replace hf := x_pos c_1 hf
    refine EX.pos c_1 ?_
    have Hc_ := H.cv
    obtain ⟨r_3, er_3, hf⟩ := x_bind hf
    obtain ⟨h_2, eh_2, H, F_⟩ := g168_ok H er_3
    refine EX.bd Hc_ ?_
    refine EX.bd eh_2 ?_
    dsimp only
    replace F := F.tr F_
    by_cases c_4 : r_3.1 = 0
    · replace hf := x_pos c_4 hf
      refine EX.pos c_4 ?_
      exact EX.uS F (gj183_32_ok H hf)
    · replace hf := x_neg c_4 hf
      refine EX.neg c_4 ?_
      exact EX.uS F (gj183_34_ok H hf)
  · replace hf := x_neg c_1 hf
    refine EX.neg c_1 ?_
    exact EX.uS F (gj183_32_ok H hf)
end
section
theorem gj184_38_ok {m : Nat} {k4 : Int32 → Int32 → Int32 → mS → Option (Int32 × mS)} {f4 : Option Nat → Int32 → Int32 → Int32 → xH → Option (Int32 × xH)} (hk4 : ∀ {h : xH} {S : mS} {x1 : Int32} {x2 : Int32} {x3 : Int32} {r : (Int32 × mS)}, RF h m S → k4 x1 x2 x3 S = some r → EX (f4 (some m) x1 x2 x3 h) (fun z => (r.1, z)) (QS m h r.2)) {h : xH} {S : mS} {x1 : Int32} {x2 : Int32} {x3 : Int32} {s0 : Int32} {r : (Int32 × mS)} (H : RF h m S) (hf : gj184_38 k4 x1 x2 x3 s0 S = some r) : EX (j184_38 f4 (some m) x1 x2 x3 s0 h) (fun z => (r.1, z)) (QS m h r.2) := by
  have F := FM.rfl' (m := m) (h := h)
  unfold gj184_38 at hf
  unfold j184_38
  exact EX.uS F (hk4 H hf)
theorem gj184_33_ok {m : Nat} {k4 : Int32 → Int32 → Int32 → mS → Option (Int32 × mS)} {f4 : Option Nat → Int32 → Int32 → Int32 → xH → Option (Int32 × xH)} (hk4 : ∀ {h : xH} {S : mS} {x1 : Int32} {x2 : Int32} {x3 : Int32} {r : (Int32 × mS)}, RF h m S → k4 x1 x2 x3 S = some r → EX (f4 (some m) x1 x2 x3 h) (fun z => (r.1, z)) (QS m h r.2)) {h : xH} {S : mS} {x1 : Int32} {x2 : Int32} {x3 : Int32} {r : (Int32 × mS)} (H : RF h m S) (hf : gj184_33 k4 x1 x2 x3 S = some r) : EX (j184_33 f4 (some m) x1 x2 x3 h) (fun z => (r.1, z)) (QS m h r.2) := by
  have F := FM.rfl' (m := m) (h := h)
  unfold gj184_33 at hf
  unfold j184_33
  exact EX.uS F (gj184_38_ok (k4 := k4) (f4 := f4) hk4 H hf)
theorem gl184_4_ok {m : Nat} : ∀ (n : Nat) {h : xH} {S : mS} {x1 : Int32} {x2 : Int32} {x3 : Int32} {r : (Int32 × mS)} (H : RF h m S), gl184_4 n x1 x2 x3 S = some r → EX (l184_4 n (some m) x1 x2 x3 h) (fun z => (r.1, z)) (QS m h r.2) := by
  intro n
  induction n with
  | zero => intros; rename_i hf; cases hf
  | succ n ih =>
    intro h S x1 x2 x3 r H hf
    have F := FM.rfl' (m := m) (h := h)
    replace hf : ((sLd S 14 40).bind fun v_1 => (if v_1 ≤ x3 then (if x2 &&& 1 = x2 then some (x2, S) else none) else (if x2 = 0 then (sLd S 16 (960 + x3)).bind fun v_5 => (if v_5 = x1 then gj184_33 (gl184_4 n) x1 x2 x3 S else gj184_38 (gl184_4 n) x1 x2 x3 0 S) else gj184_33 (gl184_4 n) x1 x2 x3 S))) = some r := hf
    unfold l184_4
    refine EX.bd (H.gR 14) ?_
    obtain ⟨v_1, ev_1, hf⟩ := x_bind hf
    refine EX.bd (H.aI (by decide) ev_1) ?_
    by_cases c_2 : v_1 ≤ x3
    · replace hf := x_pos c_2 hf
      refine EX.pos c_2 ?_
      by_cases c_3 : x2 &&& 1 = x2
      · replace hf := x_pos c_3 hf
        refine EX.pos c_3 ?_
        obtain rfl := Option.some.inj hf
        exact ⟨_, rfl, H, F⟩
      · replace hf := x_neg c_3 hf
        cases hf
    · replace hf := x_neg c_2 hf
      refine EX.neg c_2 ?_
      by_cases c_4 : x2 = 0
      · replace hf := x_pos c_4 hf
        refine EX.pos c_4 ?_
        refine EX.bd (H.gR 16) ?_
        obtain ⟨v_5, ev_5, hf⟩ := x_bind hf
        refine EX.bd (H.aI (by decide) ev_5) ?_
        by_cases c_6 : v_5 = x1
        · replace hf := x_pos c_6 hf
          refine EX.pos c_6 ?_
          exact EX.uS F (gj184_33_ok (k4 := (gl184_4 n)) (f4 := (l184_4 n)) ih H hf)
        · replace hf := x_neg c_6 hf
          refine EX.neg c_6 ?_
          exact EX.uS F (gj184_38_ok (k4 := (gl184_4 n)) (f4 := (l184_4 n)) ih H hf)
      · replace hf := x_neg c_4 hf
        refine EX.neg c_4 ?_
        exact EX.uS F (gj184_33_ok (k4 := (gl184_4 n)) (f4 := (l184_4 n)) ih H hf)
theorem g184_ok {h : xH} {m : Nat} {S : mS} {x1 : Int32} {r : (Int32 × mS)} (H : RF h m S) (hf : g184 x1 S = some r) : EX (fn184 (some m) x1 h) (fun z => (r.1, z)) (QS m h r.2) := by
  have F := FM.rfl' (m := m) (h := h)
  unfold g184 at hf
  unfold fn184
  exact EX.uS F (gl184_4_ok xFuel H hf)
end
section
theorem gj185_120_ok {m : Nat} {k5 : Int32 → Int32 → Int32 → Int32 → mS → Option (Int32 × mS)} {f5 : Option Nat → Int32 → Int32 → Int32 → Int32 → xH → Option (Int32 × xH)} (hk5 : ∀ {h : xH} {S : mS} {x1 : Int32} {x2 : Int32} {x3 : Int32} {x4 : Int32} {r : (Int32 × mS)}, RF h m S → k5 x1 x2 x3 x4 S = some r → EX (f5 (some m) x1 x2 x3 x4 h) (fun z => (r.1, z)) (QS m h r.2)) {h : xH} {S : mS} {x1 : Int32} {x2 : Int32} {x3 : Int32} {x4 : Int32} {x5 : Int32} {x6 : Int32} {x7 : Int32} {s0 : Int32} {r : (Int32 × mS)} (H : RF h m S) (hf : gj185_120 k5 x1 x2 x3 x4 x5 x6 x7 s0 S = some r) : EX (j185_120 f5 (some m) x1 x2 x3 x4 x5 x6 x7 s0 h) (fun z => (r.1, z)) (QS m h r.2) := by
  have F := FM.rfl' (m := m) (h := h)
  unfold gj185_120 at hf
  unfold j185_120
  exact EX.uS F (hk5 H hf)
theorem gj185_115_ok {m : Nat} {k5 : Int32 → Int32 → Int32 → Int32 → mS → Option (Int32 × mS)} {f5 : Option Nat → Int32 → Int32 → Int32 → Int32 → xH → Option (Int32 × xH)} (hk5 : ∀ {h : xH} {S : mS} {x1 : Int32} {x2 : Int32} {x3 : Int32} {x4 : Int32} {r : (Int32 × mS)}, RF h m S → k5 x1 x2 x3 x4 S = some r → EX (f5 (some m) x1 x2 x3 x4 h) (fun z => (r.1, z)) (QS m h r.2)) {h : xH} {S : mS} {x1 : Int32} {x2 : Int32} {x3 : Int32} {x4 : Int32} {x5 : Int32} {x6 : Int32} {x7 : Int32} {r : (Int32 × mS)} (H : RF h m S) (hf : gj185_115 k5 x1 x2 x3 x4 x5 x6 x7 S = some r) : EX (j185_115 f5 (some m) x1 x2 x3 x4 x5 x6 x7 h) (fun z => (r.1, z)) (QS m h r.2) := by
  have F := FM.rfl' (m := m) (h := h)
  unfold gj185_115 at hf
  unfold j185_115
  exact EX.uS F (gj185_120_ok (k5 := k5) (f5 := f5) hk5 H hf)
theorem gj185_106_ok {m : Nat} {k5 : Int32 → Int32 → Int32 → Int32 → mS → Option (Int32 × mS)} {f5 : Option Nat → Int32 → Int32 → Int32 → Int32 → xH → Option (Int32 × xH)} (hk5 : ∀ {h : xH} {S : mS} {x1 : Int32} {x2 : Int32} {x3 : Int32} {x4 : Int32} {r : (Int32 × mS)}, RF h m S → k5 x1 x2 x3 x4 S = some r → EX (f5 (some m) x1 x2 x3 x4 h) (fun z => (r.1, z)) (QS m h r.2)) {h : xH} {S : mS} {x1 : Int32} {x2 : Int32} {x3 : Int32} {x4 : Int32} {x5 : Int32} {x6 : Int32} {x7 : Int32} {r : (Int32 × mS)} (H : RF h m S) (hf : gj185_106 k5 x1 x2 x3 x4 x5 x6 x7 S = some r) : EX (j185_106 f5 (some m) x1 x2 x3 x4 x5 x6 x7 h) (fun z => (r.1, z)) (QS m h r.2) := by
  have F := FM.rfl' (m := m) (h := h)
  unfold gj185_106 at hf
  unfold j185_106
  by_cases c_1 : x3 = 0
  · replace hf := x_pos c_1 hf
    refine EX.pos c_1 ?_
    by_cases c_2 : x6 = 0
    · replace hf := x_pos c_2 hf
      refine EX.pos c_2 ?_
      exact EX.uS F (gj185_120_ok (k5 := k5) (f5 := f5) hk5 H hf)
    · replace hf := x_neg c_2 hf
      refine EX.neg c_2 ?_
      exact EX.uS F (gj185_115_ok (k5 := k5) (f5 := f5) hk5 H hf)
  · replace hf := x_neg c_1 hf
    refine EX.neg c_1 ?_
    exact EX.uS F (gj185_115_ok (k5 := k5) (f5 := f5) hk5 H hf)
theorem gj185_98_ok {m : Nat} {k5 : Int32 → Int32 → Int32 → Int32 → mS → Option (Int32 × mS)} {f5 : Option Nat → Int32 → Int32 → Int32 → Int32 → xH → Option (Int32 × xH)} (hk5 : ∀ {h : xH} {S : mS} {x1 : Int32} {x2 : Int32} {x3 : Int32} {x4 : Int32} {r : (Int32 × mS)}, RF h m S → k5 x1 x2 x3 x4 S = some r → EX (f5 (some m) x1 x2 x3 x4 h) (fun z => (r.1, z)) (QS m h r.2)) {k57 : Int32 → Int32 → Int32 → Int32 → Int32 → Int32 → Int32 → mS → Option (Int32 × mS)} {f57 : Option Nat → Int32 → Int32 → Int32 → Int32 → Int32 → Int32 → Int32 → xH → Option (Int32 × xH)} (hk57 : ∀ {h : xH} {S : mS} {x1 : Int32} {x2 : Int32} {x3 : Int32} {x4 : Int32} {x5 : Int32} {x6 : Int32} {x7 : Int32} {r : (Int32 × mS)}, RF h m S → k57 x1 x2 x3 x4 x5 x6 x7 S = some r → EX (f57 (some m) x1 x2 x3 x4 x5 x6 x7 h) (fun z => (r.1, z)) (QS m h r.2)) {h : xH} {S : mS} {x1 : Int32} {x2 : Int32} {x3 : Int32} {x4 : Int32} {x5 : Int32} {x6 : Int32} {x7 : Int32} {s0 : Int32} {r : (Int32 × mS)} (H : RF h m S) (hf : gj185_98 k5 k57 x1 x2 x3 x4 x5 x6 x7 s0 S = some r) : EX (j185_98 f5 f57 (some m) x1 x2 x3 x4 x5 x6 x7 s0 h) (fun z => (r.1, z)) (QS m h r.2) := by
  have F := FM.rfl' (m := m) (h := h)
  unfold gj185_98 at hf
  unfold j185_98
  exact EX.uS F (hk57 H hf)
theorem gl185_57_ok {m : Nat} {k5 : Int32 → Int32 → Int32 → Int32 → mS → Option (Int32 × mS)} {f5 : Option Nat → Int32 → Int32 → Int32 → Int32 → xH → Option (Int32 × xH)} (hk5 : ∀ {h : xH} {S : mS} {x1 : Int32} {x2 : Int32} {x3 : Int32} {x4 : Int32} {r : (Int32 × mS)}, RF h m S → k5 x1 x2 x3 x4 S = some r → EX (f5 (some m) x1 x2 x3 x4 h) (fun z => (r.1, z)) (QS m h r.2)) : ∀ (n : Nat) {h : xH} {S : mS} {x1 : Int32} {x2 : Int32} {x3 : Int32} {x4 : Int32} {x5 : Int32} {x6 : Int32} {x7 : Int32} {r : (Int32 × mS)} (H : RF h m S), gl185_57 k5 n x1 x2 x3 x4 x5 x6 x7 S = some r → EX (l185_57 f5 n (some m) x1 x2 x3 x4 x5 x6 x7 h) (fun z => (r.1, z)) (QS m h r.2) := by
  intro n
  induction n with
  | zero => intros; rename_i hf; cases hf
  | succ n ih =>
    intro h S x1 x2 x3 x4 x5 x6 x7 r H hf
    have F := FM.rfl' (m := m) (h := h)
    replace hf : ((if x2 ≤ x7 then gj185_106 k5 x1 x2 x3 x4 x5 x6 x7 S else (if x6 = 0 then gj185_106 k5 x1 x2 x3 x4 x5 x6 x7 S else (sLd S 21 x5).bind fun v_3 => (g167 (v_3 + x7) S).bind fun r_5 => (g167 (x1 + x7) r_5.2).bind fun r_7 => (if r_5.1 = r_7.1 then gj185_98 k5 (gl185_57 k5 n) x1 x2 x3 x4 x5 x6 x7 1 r_7.2 else gj185_98 k5 (gl185_57 k5 n) x1 x2 x3 x4 x5 x6 x7 0 r_7.2)))) = some r := hf
    unfold l185_57
    by_cases c_1 : x2 ≤ x7
    · replace hf := x_pos c_1 hf
      refine EX.pos c_1 ?_
      exact EX.uS F (gj185_106_ok (k5 := k5) (f5 := f5) hk5 H hf)
    · replace hf := x_neg c_1 hf
      refine EX.neg c_1 ?_
      by_cases c_2 : x6 = 0
      · replace hf := x_pos c_2 hf
        refine EX.pos c_2 ?_
        exact EX.uS F (gj185_106_ok (k5 := k5) (f5 := f5) hk5 H hf)
      · replace hf := x_neg c_2 hf
        refine EX.neg c_2 ?_
        refine EX.bd (H.gR 21) ?_
        obtain ⟨v_3, ev_3, hf⟩ := x_bind hf
        refine EX.bd (H.aI (by decide) ev_3) ?_
        have Hc_ := H.cv
        obtain ⟨r_5, er_5, hf⟩ := x_bind hf
        obtain ⟨h_4, eh_4, H, F_⟩ := g167_ok H er_5
        refine EX.bd Hc_ ?_
        refine EX.bd eh_4 ?_
        dsimp only
        replace F := F.tr F_
        have Hc_ := H.cv
        obtain ⟨r_7, er_7, hf⟩ := x_bind hf
        obtain ⟨h_6, eh_6, H, F_⟩ := g167_ok H er_7
        refine EX.bd Hc_ ?_
        refine EX.bd eh_6 ?_
        dsimp only
        replace F := F.tr F_
        by_cases c_8 : r_5.1 = r_7.1
        · replace hf := x_pos c_8 hf
          refine EX.pos c_8 ?_
          exact EX.uS F (gj185_98_ok (k5 := k5) (f5 := f5) hk5 (k57 := (gl185_57 k5 n)) (f57 := (l185_57 f5 n)) ih H hf)
        · replace hf := x_neg c_8 hf
          refine EX.neg c_8 ?_
          exact EX.uS F (gj185_98_ok (k5 := k5) (f5 := f5) hk5 (k57 := (gl185_57 k5 n)) (f57 := (l185_57 f5 n)) ih H hf)
theorem gj185_52_ok {m : Nat} {k5 : Int32 → Int32 → Int32 → Int32 → mS → Option (Int32 × mS)} {f5 : Option Nat → Int32 → Int32 → Int32 → Int32 → xH → Option (Int32 × xH)} (hk5 : ∀ {h : xH} {S : mS} {x1 : Int32} {x2 : Int32} {x3 : Int32} {x4 : Int32} {r : (Int32 × mS)}, RF h m S → k5 x1 x2 x3 x4 S = some r → EX (f5 (some m) x1 x2 x3 x4 h) (fun z => (r.1, z)) (QS m h r.2)) {h : xH} {S : mS} {x1 : Int32} {x2 : Int32} {x3 : Int32} {x4 : Int32} {x5 : Int32} {s0 : Int32} {r : (Int32 × mS)} (H : RF h m S) (hf : gj185_52 k5 x1 x2 x3 x4 x5 s0 S = some r) : EX (j185_52 f5 (some m) x1 x2 x3 x4 x5 s0 h) (fun z => (r.1, z)) (QS m h r.2) := by
  have F := FM.rfl' (m := m) (h := h)
  unfold gj185_52 at hf
  unfold j185_52
  exact EX.uS F (gl185_57_ok (k5 := k5) (f5 := f5) hk5 xFuel H hf)
theorem gj185_51_ok {m : Nat} {k5 : Int32 → Int32 → Int32 → Int32 → mS → Option (Int32 × mS)} {f5 : Option Nat → Int32 → Int32 → Int32 → Int32 → xH → Option (Int32 × xH)} (hk5 : ∀ {h : xH} {S : mS} {x1 : Int32} {x2 : Int32} {x3 : Int32} {x4 : Int32} {r : (Int32 × mS)}, RF h m S → k5 x1 x2 x3 x4 S = some r → EX (f5 (some m) x1 x2 x3 x4 h) (fun z => (r.1, z)) (QS m h r.2)) {h : xH} {S : mS} {x1 : Int32} {x2 : Int32} {x3 : Int32} {x4 : Int32} {x5 : Int32} {r : (Int32 × mS)} (H : RF h m S) (hf : gj185_51 k5 x1 x2 x3 x4 x5 S = some r) : EX (j185_51 f5 (some m) x1 x2 x3 x4 x5 h) (fun z => (r.1, z)) (QS m h r.2) := by
  have F := FM.rfl' (m := m) (h := h)
  unfold gj185_51 at hf
  unfold j185_51
  exact EX.uS F (gj185_52_ok (k5 := k5) (f5 := f5) hk5 H hf)
theorem gl185_5_ok {m : Nat} : ∀ (n : Nat) {h : xH} {S : mS} {x1 : Int32} {x2 : Int32} {x3 : Int32} {x4 : Int32} {r : (Int32 × mS)} (H : RF h m S), gl185_5 n x1 x2 x3 x4 S = some r → EX (l185_5 n (some m) x1 x2 x3 x4 h) (fun z => (r.1, z)) (QS m h r.2) := by
  intro n
  induction n with
  | zero => intros; rename_i hf; cases hf
  | succ n ih =>
    intro h S x1 x2 x3 x4 r H hf
    have F := FM.rfl' (m := m) (h := h)
    replace hf : ((sLd S 14 40).bind fun v_1 => (if v_1 ≤ x4 then (if x3 &&& 1 = x3 then some (x3, S) else none) else (sLd S 16 (960 + x4)).bind fun v_4 => (if v_4 = 2 then (sLd S 22 (960 + x4)).bind fun v_6 => (if v_6 = x2 then gj185_52 (gl185_5 n) x1 x2 x3 x4 (960 + x4) 1 S else gj185_51 (gl185_5 n) x1 x2 x3 x4 (960 + x4) S) else gj185_51 (gl185_5 n) x1 x2 x3 x4 (960 + x4) S))) = some r := hf
    unfold l185_5
    refine EX.bd (H.gR 14) ?_
    obtain ⟨v_1, ev_1, hf⟩ := x_bind hf
    refine EX.bd (H.aI (by decide) ev_1) ?_
    by_cases c_2 : v_1 ≤ x4
    · replace hf := x_pos c_2 hf
      refine EX.pos c_2 ?_
      by_cases c_3 : x3 &&& 1 = x3
      · replace hf := x_pos c_3 hf
        refine EX.pos c_3 ?_
        obtain rfl := Option.some.inj hf
        exact ⟨_, rfl, H, F⟩
      · replace hf := x_neg c_3 hf
        cases hf
    · replace hf := x_neg c_2 hf
      refine EX.neg c_2 ?_
      refine EX.bd (H.gR 16) ?_
      obtain ⟨v_4, ev_4, hf⟩ := x_bind hf
      refine EX.bd (H.aI (by decide) ev_4) ?_
      by_cases c_5 : v_4 = 2
      · replace hf := x_pos c_5 hf
        refine EX.pos c_5 ?_
        refine EX.bd (H.gR 22) ?_
        obtain ⟨v_6, ev_6, hf⟩ := x_bind hf
        refine EX.bd (H.aI (by decide) ev_6) ?_
        by_cases c_7 : v_6 = x2
        · replace hf := x_pos c_7 hf
          refine EX.pos c_7 ?_
          exact EX.uS F (gj185_52_ok (k5 := (gl185_5 n)) (f5 := (l185_5 n)) ih H hf)
        · replace hf := x_neg c_7 hf
          refine EX.neg c_7 ?_
          exact EX.uS F (gj185_51_ok (k5 := (gl185_5 n)) (f5 := (l185_5 n)) ih H hf)
      · replace hf := x_neg c_5 hf
        refine EX.neg c_5 ?_
        exact EX.uS F (gj185_51_ok (k5 := (gl185_5 n)) (f5 := (l185_5 n)) ih H hf)
theorem g185_ok {h : xH} {m : Nat} {S : mS} {x1 : Int32} {x2 : Int32} {r : (Int32 × mS)} (H : RF h m S) (hf : g185 x1 x2 S = some r) : EX (fn185 (some m) x1 x2 h) (fun z => (r.1, z)) (QS m h r.2) := by
  have F := FM.rfl' (m := m) (h := h)
  unfold g185 at hf
  unfold fn185
  exact EX.uS F (gl185_5_ok xFuel H hf)
end
section
theorem gj186_122_ok {m : Nat} {h : xH} {S : mS} {x1 : Int32} {x2 : Int32} {x3 : Int32} {x4 : Int32} {x5 : Int32} {x6 : Int32} {r : (Int32 × mS)} (H : RF h m S) (hf : gj186_122 x1 x2 x3 x4 x5 x6 S = some r) : EX (j186_122 (some m) x1 x2 x3 x4 x5 x6 h) (fun z => (r.1, z)) (QS m h r.2) := by
  have F := FM.rfl' (m := m) (h := h)
  unfold gj186_122 at hf
  unfold j186_122
  by_cases c_1 : x5 &&& 1 = x5
  · replace hf := x_pos c_1 hf
    refine EX.pos c_1 ?_
    obtain rfl := Option.some.inj hf
    exact ⟨_, rfl, H, F⟩
  · replace hf := x_neg c_1 hf
    cases hf
theorem gl186_94_ok {m : Nat} : ∀ (n : Nat) {h : xH} {S : mS} {x1 : Int32} {x2 : Int32} {x3 : Int32} {x4 : Int32} {x5 : Int32} {x6 : Int32} {r : (Int32 × mS)} (H : RF h m S), gl186_94 n x1 x2 x3 x4 x5 x6 S = some r → EX (l186_94 n (some m) x1 x2 x3 x4 x5 x6 h) (fun z => (r.1, z)) (QS m h r.2) := by
  intro n
  induction n with
  | zero => intros; rename_i hf; cases hf
  | succ n ih =>
    intro h S x1 x2 x3 x4 x5 x6 r H hf
    have F := FM.rfl' (m := m) (h := h)
    replace hf : ((if x3 ≤ x6 then gj186_122 x1 x2 x3 x4 x5 x6 S else (if x5 = 0 then gj186_122 x1 x2 x3 x4 x5 x6 S else (g167 x6 S).bind fun r_4 => (g147 r_4.1 r_4.2).bind fun r_6 => gl186_94 n x1 x2 x3 x4 r_6.1 (x6 + 1) r_6.2))) = some r := hf
    unfold l186_94
    by_cases c_1 : x3 ≤ x6
    · replace hf := x_pos c_1 hf
      refine EX.pos c_1 ?_
      exact EX.uS F (gj186_122_ok H hf)
    · replace hf := x_neg c_1 hf
      refine EX.neg c_1 ?_
      by_cases c_2 : x5 = 0
      · replace hf := x_pos c_2 hf
        refine EX.pos c_2 ?_
        exact EX.uS F (gj186_122_ok H hf)
      · replace hf := x_neg c_2 hf
        refine EX.neg c_2 ?_
        have Hc_ := H.cv
        obtain ⟨r_4, er_4, hf⟩ := x_bind hf
        obtain ⟨h_3, eh_3, H, F_⟩ := g167_ok H er_4
        refine EX.bd Hc_ ?_
        refine EX.bd eh_3 ?_
        dsimp only
        replace F := F.tr F_
        obtain ⟨r_6, er_6, hf⟩ := x_bind hf
        obtain ⟨h_5, eh_5, H, F_⟩ := g147_ok H er_6
        refine EX.bd eh_5 ?_
        dsimp only
        replace F := F.tr F_
        exact EX.uS F (ih H hf)
theorem gj186_81_ok {m : Nat} {h : xH} {S : mS} {x1 : Int32} {x2 : Int32} {x3 : Int32} {x4 : Int32} {s0 : Int32} {r : (Int32 × mS)} (H : RF h m S) (hf : gj186_81 x1 x2 x3 x4 s0 S = some r) : EX (j186_81 (some m) x1 x2 x3 x4 s0 h) (fun z => (r.1, z)) (QS m h r.2) := by
  have F := FM.rfl' (m := m) (h := h)
  unfold gj186_81 at hf
  unfold j186_81
  by_cases c_1 : s0 &&& 1 = s0
  · replace hf := x_pos c_1 hf
    refine EX.pos c_1 ?_
    obtain rfl := Option.some.inj hf
    exact ⟨_, rfl, H, F⟩
  · replace hf := x_neg c_1 hf
    cases hf
theorem gj186_80_ok {m : Nat} {h : xH} {S : mS} {x1 : Int32} {x2 : Int32} {x3 : Int32} {x4 : Int32} {r : (Int32 × mS)} (H : RF h m S) (hf : gj186_80 x1 x2 x3 x4 S = some r) : EX (j186_80 (some m) x1 x2 x3 x4 h) (fun z => (r.1, z)) (QS m h r.2) := by
  have F := FM.rfl' (m := m) (h := h)
  unfold gj186_80 at hf
  unfold j186_80
  exact EX.uS F (gj186_81_ok H hf)
theorem gj186_42_ok {m : Nat} {h : xH} {S : mS} {x1 : Int32} {x2 : Int32} {x3 : Int32} {x4 : Int32} {s0 : Int32} {r : (Int32 × mS)} (H : RF h m S) (hf : gj186_42 x1 x2 x3 x4 s0 S = some r) : EX (j186_42 (some m) x1 x2 x3 x4 s0 h) (fun z => (r.1, z)) (QS m h r.2) := by
  have F := FM.rfl' (m := m) (h := h)
  unfold gj186_42 at hf
  unfold j186_42
  by_cases c_1 : s0 &&& 1 = s0
  · replace hf := x_pos c_1 hf
    refine EX.pos c_1 ?_
    obtain rfl := Option.some.inj hf
    exact ⟨_, rfl, H, F⟩
  · replace hf := x_neg c_1 hf
    cases hf
theorem gj186_41_ok {m : Nat} {h : xH} {S : mS} {x1 : Int32} {x2 : Int32} {x3 : Int32} {x4 : Int32} {r : (Int32 × mS)} (H : RF h m S) (hf : gj186_41 x1 x2 x3 x4 S = some r) : EX (j186_41 (some m) x1 x2 x3 x4 h) (fun z => (r.1, z)) (QS m h r.2) := by
  have F := FM.rfl' (m := m) (h := h)
  unfold gj186_41 at hf
  unfold j186_41
  exact EX.uS F (gj186_42_ok H hf)
theorem g186_ok {h : xH} {m : Nat} {S : mS} {x1 : Int32} {x2 : Int32} {x3 : Int32} {r : (Int32 × mS)} (H : RF h m S) (hf : g186 x1 x2 x3 S = some r) : EX (fn186 (some m) x1 x2 x3 h) (fun z => (r.1, z)) (QS m h r.2) := by
  have F := FM.rfl' (m := m) (h := h)
  unfold g186 at hf
  unfold fn186
  by_cases c_1 : x1 = 2
  · replace hf := x_pos c_1 hf
    refine EX.pos c_1 ?_
    by_cases c_2 : (x3 - x2) ≤ 0
    · replace hf := x_pos c_2 hf
      refine EX.pos c_2 ?_
      exact EX.uS F (gj186_41_ok H hf)
    · replace hf := x_neg c_2 hf
      refine EX.neg c_2 ?_
      refine EX.bd (H.gR 12) ?_
      obtain ⟨r_4, er_4, hf⟩ := x_bind hf
      obtain ⟨h_3, eh_3, H, F_⟩ := g162_ok H (by decide) er_4
      refine EX.bd eh_3 ?_
      dsimp only
      replace F := F.tr F_
      by_cases c_5 : r_4.1 = (x3 - x2)
      · replace hf := x_pos c_5 hf
        refine EX.pos c_5 ?_
        exact EX.uS F (gj186_42_ok H hf)
      · replace hf := x_neg c_5 hf
        refine EX.neg c_5 ?_
        exact EX.uS F (gj186_41_ok H hf)
  · replace hf := x_neg c_1 hf
    refine EX.neg c_1 ?_
    by_cases c_6 : x1 = 6
    · replace hf := x_pos c_6 hf
      refine EX.pos c_6 ?_
      obtain ⟨r_8, er_8, hf⟩ := x_bind hf
      obtain ⟨h_7, eh_7, H, F_⟩ := g141_ok H er_8
      refine EX.bd eh_7 ?_
      dsimp only
      replace F := F.tr F_
      exact EX.uS F (gl186_94_ok xFuel H hf)
    · replace hf := x_neg c_6 hf
      refine EX.neg c_6 ?_
      by_cases c_9 : (x3 - x2) ≤ 0
      · replace hf := x_pos c_9 hf
        refine EX.pos c_9 ?_
        exact EX.uS F (gj186_80_ok H hf)
      · replace hf := x_neg c_9 hf
        refine EX.neg c_9 ?_
        refine EX.bd (H.gR 12) ?_
        obtain ⟨r_11, er_11, hf⟩ := x_bind hf
        obtain ⟨h_10, eh_10, H, F_⟩ := g163_ok H (by decide) er_11
        refine EX.bd eh_10 ?_
        dsimp only
        replace F := F.tr F_
        by_cases c_12 : r_11.1 = (x3 - x2)
        · replace hf := x_pos c_12 hf
          refine EX.pos c_12 ?_
          exact EX.uS F (gj186_81_ok H hf)
        · replace hf := x_neg c_12 hf
          refine EX.neg c_12 ?_
          exact EX.uS F (gj186_80_ok H hf)
end
section
theorem gj187_214_ok {m : Nat} {h : xH} {S : mS} {x1 : Int32} {x2 : Int32} {x3 : Int32} {x4 : Int32} {r : mS} (H : RF h m S) (hf : gj187_214 x1 x2 x3 x4 S = some r) : EX (j187_214 (some m) x1 x2 x3 x4 h) (fun z => z) (QS m h r) := by
  have F := FM.rfl' (m := m) (h := h)
  unfold gj187_214 at hf
  unfold j187_214
  obtain rfl := Option.some.inj hf
  exact ⟨_, rfl, H, F⟩
theorem gj187_206_ok {m : Nat} {h : xH} {S : mS} {x1 : Int32} {x2 : Int32} {x3 : Int32} {x4 : Int32} {x5 : Int32} {r : mS} (H : RF h m S) (hf : gj187_206 x1 x2 x3 x4 x5 S = some r) : EX (j187_206 (some m) x1 x2 x3 x4 x5 h) (fun z => z) (QS m h r) := by
  have F := FM.rfl' (m := m) (h := h)
  unfold gj187_206 at hf
  unfold j187_206
  exact EX.uS F (gj187_214_ok H hf)
theorem gj187_183_ok {m : Nat} {h : xH} {S : mS} {x1 : Int32} {x2 : Int32} {x3 : Int32} {x4 : Int32} {r : mS} (H : RF h m S) (hf : gj187_183 x1 x2 x3 x4 S = some r) : EX (j187_183 (some m) x1 x2 x3 x4 h) (fun z => z) (QS m h r) := by
  have F := FM.rfl' (m := m) (h := h)
  unfold gj187_183 at hf
  unfold j187_183
  have Hc_ := H.cv
  obtain ⟨r_2, er_2, hf⟩ := x_bind hf
  obtain ⟨h_1, eh_1, H, F_⟩ := g169_ok H er_2
  refine EX.bd Hc_ ?_
  refine EX.bd eh_1 ?_
  dsimp only
  replace F := F.tr F_
  refine EX.bd (H.gI 37) ?_
  by_cases c_3 : (r_2.2.1 37) ≤ r_2.1
  · replace hf := x_pos c_3 hf
    refine EX.pos c_3 ?_
    exact EX.uS F (gj187_206_ok H hf)
  · replace hf := x_neg c_3 hf
    refine EX.neg c_3 ?_
    have Hc_ := H.cv
    obtain ⟨S_5, eS_5, hf⟩ := x_bind hf
    obtain ⟨h_4, eh_4, H, F_⟩ := g166_ok H eS_5
    refine EX.bd Hc_ ?_
    refine EX.bd eh_4 ?_
    replace F := F.tr F_
    exact EX.uS F (gj187_206_ok H hf)
theorem gj187_136_ok {m : Nat} {h : xH} {S : mS} {x1 : Int32} {x2 : Int32} {x3 : Int32} {x4 : Int32} {r : mS} (H : RF h m S) (hf : gj187_136 x1 x2 x3 x4 S = some r) : EX (j187_136 (some m) x1 x2 x3 x4 h) (fun z => z) (QS m h r) := by
  have F := FM.rfl' (m := m) (h := h)
  unfold gj187_136 at hf
  unfold j187_136
  obtain ⟨S_1, eS_1, hf⟩ := x_bind hf
  obtain ⟨h_2, eh_2, H, F_⟩ := H.pF 35 (show xfit .boolean (.int 1) = true by decide) eS_1
  refine EX.bd eh_2 ?_
  replace F := F.tr F_
  have Hc_ := H.cv
  obtain ⟨S_4, eS_4, hf⟩ := x_bind hf
  obtain ⟨h_3, eh_3, H, F_⟩ := g173_ok H eS_4
  refine EX.bd Hc_ ?_
  refine EX.bd eh_3 ?_
  replace F := F.tr F_
  refine EX.bd (H.gR 21) ?_
  have Hc_ := H.cv
  obtain ⟨r_6, er_6, hf⟩ := x_bind hf
  obtain ⟨h_5, eh_5, H, F_⟩ := g174_ok H er_6
  refine EX.bd Hc_ ?_
  refine EX.bd eh_5 ?_
  dsimp only
  replace F := F.tr F_
  obtain ⟨S_7, eS_7, hf⟩ := x_bind hf
  obtain ⟨h_8, eh_8, H, F_⟩ := H.aS (by decide) eS_7
  refine EX.bd eh_8 ?_
  replace F := F.tr F_
  refine EX.bd (H.gR 22) ?_
  have Hc_ := H.cv
  obtain ⟨r_10, er_10, hf⟩ := x_bind hf
  obtain ⟨h_9, eh_9, H, F_⟩ := g174_ok H er_10
  refine EX.bd Hc_ ?_
  refine EX.bd eh_9 ?_
  dsimp only
  replace F := F.tr F_
  obtain ⟨S_11, eS_11, hf⟩ := x_bind hf
  obtain ⟨h_12, eh_12, H, F_⟩ := H.aS (by decide) eS_11
  refine EX.bd eh_12 ?_
  replace F := F.tr F_
  by_cases c_13 : x3 = 5
  · replace hf := x_pos c_13 hf
    refine EX.pos c_13 ?_
    exact EX.uS F (gj187_183_ok H hf)
  · replace hf := x_neg c_13 hf
    refine EX.neg c_13 ?_
    by_cases c_14 : x3 = 6
    · replace hf := x_pos c_14 hf
      refine EX.pos c_14 ?_
      exact EX.uS F (gj187_183_ok H hf)
    · replace hf := x_neg c_14 hf
      refine EX.neg c_14 ?_
      have Hc_ := H.cv
      obtain ⟨S_16, eS_16, hf⟩ := x_bind hf
      obtain ⟨h_15, eh_15, H, F_⟩ := g175_ok H eS_16
      refine EX.bd Hc_ ?_
      refine EX.bd eh_15 ?_
      replace F := F.tr F_
      exact EX.uS F (gj187_214_ok H hf)
theorem gj187_70_ok {m : Nat} {h : xH} {S : mS} {x1 : Int32} {x2 : Int32} {x3 : Int32} {r : mS} (H : RF h m S) (hf : gj187_70 x1 x2 x3 S = some r) : EX (j187_70 (some m) x1 x2 x3 h) (fun z => z) (QS m h r) := by
  have F := FM.rfl' (m := m) (h := h)
  unfold gj187_70 at hf
  unfold j187_70
  by_cases c_1 : x3 = 3
  · replace hf := x_pos c_1 hf
    refine EX.pos c_1 ?_
    exact EX.uS F (gj187_136_ok H hf)
  · replace hf := x_neg c_1 hf
    refine EX.neg c_1 ?_
    have Hc_ := H.cv
    obtain ⟨r_3, er_3, hf⟩ := x_bind hf
    obtain ⟨h_2, eh_2, H, F_⟩ := g169_ok H er_3
    refine EX.bd Hc_ ?_
    refine EX.bd eh_2 ?_
    dsimp only
    replace F := F.tr F_
    have Hc_ := H.cv
    obtain ⟨r_5, er_5, hf⟩ := x_bind hf
    obtain ⟨h_4, eh_4, H, F_⟩ := g170_ok H er_5
    refine EX.bd Hc_ ?_
    refine EX.bd eh_4 ?_
    dsimp only
    replace F := F.tr F_
    have Hc_ := H.cv
    obtain ⟨r_7, er_7, hf⟩ := x_bind hf
    obtain ⟨h_6, eh_6, H, F_⟩ := g186_ok H er_7
    refine EX.bd Hc_ ?_
    refine EX.bd eh_6 ?_
    dsimp only
    replace F := F.tr F_
    by_cases c_8 : r_7.1 = 0
    · replace hf := x_pos c_8 hf
      refine EX.pos c_8 ?_
      have Hc_ := H.cv
      obtain ⟨S_10, eS_10, hf⟩ := x_bind hf
      obtain ⟨h_9, eh_9, H, F_⟩ := g166_ok H eS_10
      refine EX.bd Hc_ ?_
      refine EX.bd eh_9 ?_
      replace F := F.tr F_
      obtain rfl := Option.some.inj hf
      exact ⟨_, rfl, H, F⟩
    · replace hf := x_neg c_8 hf
      refine EX.neg c_8 ?_
      by_cases c_11 : x3 = 2
      · replace hf := x_pos c_11 hf
        refine EX.pos c_11 ?_
        have Hc_ := H.cv
        obtain ⟨r_13, er_13, hf⟩ := x_bind hf
        obtain ⟨h_12, eh_12, H, F_⟩ := g185_ok H er_13
        refine EX.bd Hc_ ?_
        refine EX.bd eh_12 ?_
        dsimp only
        replace F := F.tr F_
        by_cases c_14 : r_13.1 = 0
        · replace hf := x_pos c_14 hf
          refine EX.pos c_14 ?_
          exact EX.uS F (gj187_136_ok H hf)
        · replace hf := x_neg c_14 hf
          refine EX.neg c_14 ?_
          have Hc_ := H.cv
          obtain ⟨S_16, eS_16, hf⟩ := x_bind hf
          obtain ⟨h_15, eh_15, H, F_⟩ := g166_ok H eS_16
          refine EX.bd Hc_ ?_
          refine EX.bd eh_15 ?_
          replace F := F.tr F_
          obtain rfl := Option.some.inj hf
          exact ⟨_, rfl, H, F⟩
      · replace hf := x_neg c_11 hf
        refine EX.neg c_11 ?_
        exact EX.uS F (gj187_136_ok H hf)
theorem gj187_55_ok {m : Nat} {h : xH} {S : mS} {x1 : Int32} {x2 : Int32} {x3 : Int32} {r : mS} (H : RF h m S) (hf : gj187_55 x1 x2 x3 S = some r) : EX (j187_55 (some m) x1 x2 x3 h) (fun z => z) (QS m h r) := by
  have F := FM.rfl' (m := m) (h := h)
  unfold gj187_55 at hf
  unfold j187_55
  have Hc_ := H.cv
  obtain ⟨r_2, er_2, hf⟩ := x_bind hf
  obtain ⟨h_1, eh_1, H, F_⟩ := g184_ok H er_2
  refine EX.bd Hc_ ?_
  refine EX.bd eh_1 ?_
  dsimp only
  replace F := F.tr F_
  by_cases c_3 : r_2.1 = 0
  · replace hf := x_pos c_3 hf
    refine EX.pos c_3 ?_
    exact EX.uS F (gj187_70_ok H hf)
  · replace hf := x_neg c_3 hf
    refine EX.neg c_3 ?_
    have Hc_ := H.cv
    obtain ⟨S_5, eS_5, hf⟩ := x_bind hf
    obtain ⟨h_4, eh_4, H, F_⟩ := g166_ok H eS_5
    refine EX.bd Hc_ ?_
    refine EX.bd eh_4 ?_
    replace F := F.tr F_
    obtain rfl := Option.some.inj hf
    exact ⟨_, rfl, H, F⟩
theorem g187_ok {h : xH} {m : Nat} {S : mS} {x1 : Int32} {r : mS} (H : RF h m S) (hf : g187 x1 S = some r) : EX (fn187 (some m) x1 h) (fun z => z) (QS m h r) := by
  have F := FM.rfl' (m := m) (h := h)
  unfold g187 at hf
  unfold fn187
  have Hc_ := H.cv
  obtain ⟨r_2, er_2, hf⟩ := x_bind hf
  obtain ⟨h_1, eh_1, H, F_⟩ := g170_ok H er_2
  refine EX.bd Hc_ ?_
  refine EX.bd eh_1 ?_
  dsimp only
  replace F := F.tr F_
  have Hc_ := H.cv
  obtain ⟨r_4, er_4, hf⟩ := x_bind hf
  obtain ⟨h_3, eh_3, H, F_⟩ := g183_ok H er_4
  refine EX.bd Hc_ ?_
  refine EX.bd eh_3 ?_
  dsimp only
  replace F := F.tr F_
  by_cases c_5 : r_4.1 = (-1)
  · replace hf := x_pos c_5 hf
    refine EX.pos c_5 ?_
    have Hc_ := H.cv
    obtain ⟨S_7, eS_7, hf⟩ := x_bind hf
    obtain ⟨h_6, eh_6, H, F_⟩ := g166_ok H eS_7
    refine EX.bd Hc_ ?_
    refine EX.bd eh_6 ?_
    replace F := F.tr F_
    obtain rfl := Option.some.inj hf
    exact ⟨_, rfl, H, F⟩
  · replace hf := x_neg c_5 hf
    refine EX.neg c_5 ?_
    refine EX.bd (H.gR 14) ?_
    obtain ⟨v_8, ev_8, hf⟩ := x_bind hf
    refine EX.bd (H.aI (by decide) ev_8) ?_
    by_cases c_9 : v_8 = 24
    · replace hf := x_pos c_9 hf
      refine EX.pos c_9 ?_
      have Hc_ := H.cv
      obtain ⟨S_11, eS_11, hf⟩ := x_bind hf
      obtain ⟨h_10, eh_10, H, F_⟩ := g166_ok H eS_11
      refine EX.bd Hc_ ?_
      refine EX.bd eh_10 ?_
      replace F := F.tr F_
      obtain rfl := Option.some.inj hf
      exact ⟨_, rfl, H, F⟩
    · replace hf := x_neg c_9 hf
      refine EX.neg c_9 ?_
      by_cases c_12 : r_4.1 = 3
      · replace hf := x_pos c_12 hf
        refine EX.pos c_12 ?_
        exact EX.uS F (gj187_55_ok H hf)
      · replace hf := x_neg c_12 hf
        refine EX.neg c_12 ?_
        by_cases c_13 : r_4.1 = 6
        · replace hf := x_pos c_13 hf
          refine EX.pos c_13 ?_
          exact EX.uS F (gj187_55_ok H hf)
        · replace hf := x_neg c_13 hf
          refine EX.neg c_13 ?_
          exact EX.uS F (gj187_70_ok H hf)
end
