section
theorem gj141_15_ok {m : Nat} {h : xH} {S : mS} {x0 : Int32} {x1 : Int32} {x2 : Int32} {s0 : Int32} {r : (Int32 × mS)} (H : RF h m S) (hf : gj141_15 x0 x1 x2 s0 S = some r) : EX (j141_15 x0 x1 x2 s0 h) (fun z => (r.1, z)) (QS m h r.2) := by
  have F := FM.rfl' (m := m) (h := h)
  unfold gj141_15 at hf
  unfold j141_15
  by_cases c_1 : s0 &&& 1 = s0
  · replace hf := x_pos c_1 hf
    refine EX.pos c_1 ?_
    obtain rfl := Option.some.inj hf
    exact ⟨_, rfl, H, F⟩
  · replace hf := x_neg c_1 hf
    cases hf
theorem gj141_14_ok {m : Nat} {h : xH} {S : mS} {x0 : Int32} {x1 : Int32} {x2 : Int32} {r : (Int32 × mS)} (H : RF h m S) (hf : gj141_14 x0 x1 x2 S = some r) : EX (j141_14 x0 x1 x2 h) (fun z => (r.1, z)) (QS m h r.2) := by
  have F := FM.rfl' (m := m) (h := h)
  unfold gj141_14 at hf
  unfold j141_14
  exact EX.uS F (gj141_15_ok H hf)
theorem g141_ok {h : xH} {m : Nat} {S : mS} {x0 : Int32} {x1 : Int32} {x2 : Int32} {r : (Int32 × mS)} (H : RF h m S) (hf : g141 x0 x1 x2 S = some r) : EX (fn141 x0 x1 x2 h) (fun z => (r.1, z)) (QS m h r.2) := by
  have F := FM.rfl' (m := m) (h := h)
  unfold g141 at hf
  unfold fn141
  by_cases c_1 : x0 < x1
  · replace hf := x_pos c_1 hf
    refine EX.pos c_1 ?_
    exact EX.uS F (gj141_14_ok H hf)
  · replace hf := x_neg c_1 hf
    refine EX.neg c_1 ?_
    by_cases c_2 : x2 < x0
    · replace hf := x_pos c_2 hf
      refine EX.pos c_2 ?_
      exact EX.uS F (gj141_14_ok H hf)
    · replace hf := x_neg c_2 hf
      refine EX.neg c_2 ?_
      exact EX.uS F (gj141_15_ok H hf)
end
section
theorem gl142_3_ok {m : Nat} : ∀ (n : Nat) {h : xH} {S : mS} {x1 : Int32} {x2 : Int32} {r : mS} (H : RF h m S), gl142_3 n x1 x2 S = some r → EX (l142_3 n (some m) x1 x2 h) (fun z => z) (QS m h r) := by
  intro n
  induction n with
  | zero => intros; rename_i hf; cases hf
  | succ n ih =>
    intro h S x1 x2 r H hf
    have F := FM.rfl' (m := m) (h := h)
    replace hf : ((if x2 < 0 then some S else (sSt S 0 (S.1 1) ((x1 >>> (x2 &&& 31)) &&& 255)).bind fun S_2 => (some (sPut S_2 1 ((S_2.1 1) + 1))).bind fun S_4 => gl142_3 n x1 (x2 + (-8)) S_4)) = some r := hf
    unfold l142_3
    by_cases c_1 : x2 < 0
    · replace hf := x_pos c_1 hf
      refine EX.pos c_1 ?_
      obtain rfl := Option.some.inj hf
      exact ⟨_, rfl, H, F⟩
    · replace hf := x_neg c_1 hf
      refine EX.neg c_1 ?_
      refine EX.bd (H.gR 0) ?_
      refine EX.bd (H.gI 1) ?_
      obtain ⟨S_2, eS_2, hf⟩ := x_bind hf
      obtain ⟨h_3, eh_3, H, F_⟩ := H.aS (by decide) eS_2
      refine EX.bd eh_3 ?_
      replace F := F.tr F_
      refine EX.bd (H.gI 1) ?_
      obtain ⟨S_4, eS_4, hf⟩ := x_bind hf
      obtain ⟨h_5, eh_5, H, F_⟩ := H.pF 1 (xfit_int _) eS_4
      refine EX.bd eh_5 ?_
      replace F := F.tr F_
      exact EX.uS F (ih H hf)
theorem g142_ok {h : xH} {m : Nat} {S : mS} {x1 : Int32} {r : mS} (H : RF h m S) (hf : g142 x1 S = some r) : EX (fn142 (some m) x1 h) (fun z => z) (QS m h r) := by
  have F := FM.rfl' (m := m) (h := h)
  unfold g142 at hf
  unfold fn142
  exact EX.uS F (gl142_3_ok xFuel H hf)
end
section
theorem g143_ok {h : xH} {m : Nat} {S : mS} {x1 : Int32} {x2 : Int32} {x3 : Int32} {x4 : Int32} {x5 : Int32} {r : (Int32 × mS)} (H : RF h m S) (hf : g143 x1 x2 x3 x4 x5 S = some r) : EX (fn143 (some m) x1 x2 x3 x4 x5 h) (fun z => (r.1, z)) (QS m h r.2) := by
  have F := FM.rfl' (m := m) (h := h)
  unfold g143 at hf
  unfold fn143
  refine EX.bd (H.gI 1) ?_
  by_cases c_1 : ((S.1 1) + 20) ≤ 600
  · replace hf := x_pos c_1 hf
    refine EX.pos c_1 ?_
    have Hc_ := H.cv
    obtain ⟨S_3, eS_3, hf⟩ := x_bind hf
    obtain ⟨h_2, eh_2, H, F_⟩ := g142_ok H eS_3
    refine EX.bd Hc_ ?_
    refine EX.bd eh_2 ?_
    replace F := F.tr F_
    have Hc_ := H.cv
    obtain ⟨S_5, eS_5, hf⟩ := x_bind hf
    obtain ⟨h_4, eh_4, H, F_⟩ := g142_ok H eS_5
    refine EX.bd Hc_ ?_
    refine EX.bd eh_4 ?_
    replace F := F.tr F_
    have Hc_ := H.cv
    obtain ⟨S_7, eS_7, hf⟩ := x_bind hf
    obtain ⟨h_6, eh_6, H, F_⟩ := g142_ok H eS_7
    refine EX.bd Hc_ ?_
    refine EX.bd eh_6 ?_
    replace F := F.tr F_
    have Hc_ := H.cv
    obtain ⟨S_9, eS_9, hf⟩ := x_bind hf
    obtain ⟨h_8, eh_8, H, F_⟩ := g142_ok H eS_9
    refine EX.bd Hc_ ?_
    refine EX.bd eh_8 ?_
    replace F := F.tr F_
    have Hc_ := H.cv
    obtain ⟨S_11, eS_11, hf⟩ := x_bind hf
    obtain ⟨h_10, eh_10, H, F_⟩ := g142_ok H eS_11
    refine EX.bd Hc_ ?_
    refine EX.bd eh_10 ?_
    replace F := F.tr F_
    refine EX.bd (H.gI 1) ?_
    obtain rfl := Option.some.inj hf
    exact ⟨_, rfl, H, F⟩
  · replace hf := x_neg c_1 hf
    refine EX.neg c_1 ?_
    obtain rfl := Option.some.inj hf
    exact ⟨_, rfl, H, F⟩
end
section
theorem g144_ok {h : xH} {m : Nat} {S : mS} {x1 : Int32} {r : (Int32 × mS)} (H : RF h m S) (hf : g144 x1 S = some r) : EX (fn144 (some m) x1 h) (fun z => (r.1, z)) (QS m h r.2) := by
  have F := FM.rfl' (m := m) (h := h)
  unfold g144 at hf
  unfold fn144
  refine EX.bd (H.gI 1) ?_
  obtain ⟨r_2, er_2, hf⟩ := x_bind hf
  obtain ⟨h_1, eh_1, H, F_⟩ := g141_ok H er_2
  refine EX.bd eh_1 ?_
  dsimp only
  replace F := F.tr F_
  by_cases c_3 : r_2.1 = 0
  · replace hf := x_pos c_3 hf
    refine EX.pos c_3 ?_
    obtain rfl := Option.some.inj hf
    exact ⟨_, rfl, H, F⟩
  · replace hf := x_neg c_3 hf
    refine EX.neg c_3 ?_
    refine EX.bd (H.gI 1) ?_
    obtain ⟨S_4, eS_4, hf⟩ := x_bind hf
    obtain ⟨h_5, eh_5, H, F_⟩ := H.pF 1 (xfit_int _) eS_4
    refine EX.bd eh_5 ?_
    replace F := F.tr F_
    obtain rfl := Option.some.inj hf
    exact ⟨_, rfl, H, F⟩
end
section
theorem gj145_17_ok {m : Nat} {h : xH} {S : mS} {x0 : Int32} {s0 : Int32} {r : (Int32 × mS)} (H : RF h m S) (hf : gj145_17 x0 s0 S = some r) : EX (j145_17 x0 s0 h) (fun z => (r.1, z)) (QS m h r.2) := by
  have F := FM.rfl' (m := m) (h := h)
  unfold gj145_17 at hf
  unfold j145_17
  by_cases c_1 : s0 &&& 1 = s0
  · replace hf := x_pos c_1 hf
    refine EX.pos c_1 ?_
    obtain rfl := Option.some.inj hf
    exact ⟨_, rfl, H, F⟩
  · replace hf := x_neg c_1 hf
    cases hf
theorem gj145_16_ok {m : Nat} {h : xH} {S : mS} {x0 : Int32} {r : (Int32 × mS)} (H : RF h m S) (hf : gj145_16 x0 S = some r) : EX (j145_16 x0 h) (fun z => (r.1, z)) (QS m h r.2) := by
  have F := FM.rfl' (m := m) (h := h)
  unfold gj145_16 at hf
  unfold j145_16
  exact EX.uS F (gj145_17_ok H hf)
theorem g145_ok {h : xH} {m : Nat} {S : mS} {x0 : Int32} {r : (Int32 × mS)} (H : RF h m S) (hf : g145 x0 S = some r) : EX (fn145 x0 h) (fun z => (r.1, z)) (QS m h r.2) := by
  have F := FM.rfl' (m := m) (h := h)
  unfold g145 at hf
  unfold fn145
  by_cases c_1 : x0 < 65
  · replace hf := x_pos c_1 hf
    refine EX.pos c_1 ?_
    exact EX.uS F (gj145_16_ok H hf)
  · replace hf := x_neg c_1 hf
    refine EX.neg c_1 ?_
    by_cases c_2 : 90 < x0
    · replace hf := x_pos c_2 hf
      refine EX.pos c_2 ?_
      exact EX.uS F (gj145_16_ok H hf)
    · replace hf := x_neg c_2 hf
      refine EX.neg c_2 ?_
      exact EX.uS F (gj145_17_ok H hf)
end
section
theorem gj146_17_ok {m : Nat} {h : xH} {S : mS} {x0 : Int32} {s0 : Int32} {r : (Int32 × mS)} (H : RF h m S) (hf : gj146_17 x0 s0 S = some r) : EX (j146_17 x0 s0 h) (fun z => (r.1, z)) (QS m h r.2) := by
  have F := FM.rfl' (m := m) (h := h)
  unfold gj146_17 at hf
  unfold j146_17
  by_cases c_1 : s0 &&& 1 = s0
  · replace hf := x_pos c_1 hf
    refine EX.pos c_1 ?_
    obtain rfl := Option.some.inj hf
    exact ⟨_, rfl, H, F⟩
  · replace hf := x_neg c_1 hf
    cases hf
theorem gj146_16_ok {m : Nat} {h : xH} {S : mS} {x0 : Int32} {r : (Int32 × mS)} (H : RF h m S) (hf : gj146_16 x0 S = some r) : EX (j146_16 x0 h) (fun z => (r.1, z)) (QS m h r.2) := by
  have F := FM.rfl' (m := m) (h := h)
  unfold gj146_16 at hf
  unfold j146_16
  exact EX.uS F (gj146_17_ok H hf)
theorem g146_ok {h : xH} {m : Nat} {S : mS} {x0 : Int32} {r : (Int32 × mS)} (H : RF h m S) (hf : g146 x0 S = some r) : EX (fn146 x0 h) (fun z => (r.1, z)) (QS m h r.2) := by
  have F := FM.rfl' (m := m) (h := h)
  unfold g146 at hf
  unfold fn146
  by_cases c_1 : x0 < 97
  · replace hf := x_pos c_1 hf
    refine EX.pos c_1 ?_
    exact EX.uS F (gj146_16_ok H hf)
  · replace hf := x_neg c_1 hf
    refine EX.neg c_1 ?_
    by_cases c_2 : 122 < x0
    · replace hf := x_pos c_2 hf
      refine EX.pos c_2 ?_
      exact EX.uS F (gj146_16_ok H hf)
    · replace hf := x_neg c_2 hf
      refine EX.neg c_2 ?_
      exact EX.uS F (gj146_17_ok H hf)
end
section
theorem gj147_17_ok {m : Nat} {h : xH} {S : mS} {x0 : Int32} {s0 : Int32} {r : (Int32 × mS)} (H : RF h m S) (hf : gj147_17 x0 s0 S = some r) : EX (j147_17 x0 s0 h) (fun z => (r.1, z)) (QS m h r.2) := by
  have F := FM.rfl' (m := m) (h := h)
  unfold gj147_17 at hf
  unfold j147_17
  by_cases c_1 : s0 &&& 1 = s0
  · replace hf := x_pos c_1 hf
    refine EX.pos c_1 ?_
    obtain rfl := Option.some.inj hf
    exact ⟨_, rfl, H, F⟩
  · replace hf := x_neg c_1 hf
    cases hf
theorem gj147_16_ok {m : Nat} {h : xH} {S : mS} {x0 : Int32} {r : (Int32 × mS)} (H : RF h m S) (hf : gj147_16 x0 S = some r) : EX (j147_16 x0 h) (fun z => (r.1, z)) (QS m h r.2) := by
  have F := FM.rfl' (m := m) (h := h)
  unfold gj147_16 at hf
  unfold j147_16
  exact EX.uS F (gj147_17_ok H hf)
theorem g147_ok {h : xH} {m : Nat} {S : mS} {x0 : Int32} {r : (Int32 × mS)} (H : RF h m S) (hf : g147 x0 S = some r) : EX (fn147 x0 h) (fun z => (r.1, z)) (QS m h r.2) := by
  have F := FM.rfl' (m := m) (h := h)
  unfold g147 at hf
  unfold fn147
  by_cases c_1 : x0 < 48
  · replace hf := x_pos c_1 hf
    refine EX.pos c_1 ?_
    exact EX.uS F (gj147_16_ok H hf)
  · replace hf := x_neg c_1 hf
    refine EX.neg c_1 ?_
    by_cases c_2 : 57 < x0
    · replace hf := x_pos c_2 hf
      refine EX.pos c_2 ?_
      exact EX.uS F (gj147_16_ok H hf)
    · replace hf := x_neg c_2 hf
      refine EX.neg c_2 ?_
      exact EX.uS F (gj147_17_ok H hf)
end
section
theorem g148_ok {h : xH} {m : Nat} {S : mS} {x1 : Int32} {r : (Int32 × mS)} (H : RF h m S) (hf : g148 x1 S = some r) : EX (fn148 (some m) x1 h) (fun z => (r.1, z)) (QS m h r.2) := by
  have F := FM.rfl' (m := m) (h := h)
  unfold g148 at hf
  unfold fn148
  refine EX.bd (H.gI 2) ?_
  obtain ⟨r_2, er_2, hf⟩ := x_bind hf
  obtain ⟨h_1, eh_1, H, F_⟩ := g141_ok H er_2
  refine EX.bd eh_1 ?_
  dsimp only
  replace F := F.tr F_
  by_cases c_3 : r_2.1 &&& 1 = r_2.1
  · replace hf := x_pos c_3 hf
    refine EX.pos c_3 ?_
    obtain rfl := Option.some.inj hf
    exact ⟨_, rfl, H, F⟩
  · replace hf := x_neg c_3 hf
    cases hf
end
section
theorem gj149_23_ok {m : Nat} {h : xH} {S : mS} {x1 : Int32} {x2 : Int32} {s0 : Int32} {r : (Int32 × mS)} (H : RF h m S) (hf : gj149_23 x1 x2 s0 S = some r) : EX (j149_23 (some m) x1 x2 s0 h) (fun z => (r.1, z)) (QS m h r.2) := by
  have F := FM.rfl' (m := m) (h := h)
  unfold gj149_23 at hf
  unfold j149_23
  by_cases c_1 : s0 &&& 1 = s0
  · replace hf := x_pos c_1 hf
    refine EX.pos c_1 ?_
    obtain rfl := Option.some.inj hf
    exact ⟨_, rfl, H, F⟩
  · replace hf := x_neg c_1 hf
    cases hf
theorem gj149_22_ok {m : Nat} {h : xH} {S : mS} {x1 : Int32} {x2 : Int32} {r : (Int32 × mS)} (H : RF h m S) (hf : gj149_22 x1 x2 S = some r) : EX (j149_22 (some m) x1 x2 h) (fun z => (r.1, z)) (QS m h r.2) := by
  have F := FM.rfl' (m := m) (h := h)
  unfold gj149_22 at hf
  unfold j149_22
  exact EX.uS F (gj149_23_ok H hf)
theorem g149_ok {h : xH} {m : Nat} {S : mS} {x1 : Int32} {x2 : Int32} {r : (Int32 × mS)} (H : RF h m S) (hf : g149 x1 x2 S = some r) : EX (fn149 (some m) x1 x2 h) (fun z => (r.1, z)) (QS m h r.2) := by
  have F := FM.rfl' (m := m) (h := h)
  unfold g149 at hf
  unfold fn149
  have Hc_ := H.cv
  obtain ⟨r_2, er_2, hf⟩ := x_bind hf
  obtain ⟨h_1, eh_1, H, F_⟩ := g148_ok H er_2
  refine EX.bd Hc_ ?_
  refine EX.bd eh_1 ?_
  dsimp only
  replace F := F.tr F_
  by_cases c_3 : r_2.1 = 0
  · replace hf := x_pos c_3 hf
    refine EX.pos c_3 ?_
    exact EX.uS F (gj149_22_ok H hf)
  · replace hf := x_neg c_3 hf
    refine EX.neg c_3 ?_
    refine EX.bd (H.gR 3) ?_
    obtain ⟨v_4, ev_4, hf⟩ := x_bind hf
    refine EX.bd (H.aZ (by decide) ev_4) ?_
    by_cases c_5 : v_4 = x2
    · replace hf := x_pos c_5 hf
      refine EX.pos c_5 ?_
      exact EX.uS F (gj149_23_ok H hf)
    · replace hf := x_neg c_5 hf
      refine EX.neg c_5 ?_
      exact EX.uS F (gj149_22_ok H hf)
end
section
theorem gj150_112_ok {m : Nat} {h : xH} {S : mS} {x1 : Int32} {x2 : Int32} {x3 : Int32} {r : (Int32 × mS)} (H : RF h m S) (hf : gj150_112 x1 x2 x3 S = some r) : EX (j150_112 (some m) x1 x2 x3 h) (fun z => (r.1, z)) (QS m h r.2) := by
  have F := FM.rfl' (m := m) (h := h)
  unfold gj150_112 at hf
  unfold j150_112
  by_cases c_1 : x2 &&& 1 = x2
  · replace hf := x_pos c_1 hf
    refine EX.pos c_1 ?_
    obtain rfl := Option.some.inj hf
    exact ⟨_, rfl, H, F⟩
  · replace hf := x_neg c_1 hf
    cases hf
theorem gj150_105_ok {m : Nat} {k52 : Int32 → Int32 → Int32 → mS → Option (Int32 × mS)} {f52 : Option Nat → Int32 → Int32 → Int32 → xH → Option (Int32 × xH)} (hk52 : ∀ {h : xH} {S : mS} {x1 : Int32} {x2 : Int32} {x3 : Int32} {r : (Int32 × mS)}, RF h m S → k52 x1 x2 x3 S = some r → EX (f52 (some m) x1 x2 x3 h) (fun z => (r.1, z)) (QS m h r.2)) {h : xH} {S : mS} {x1 : Int32} {x2 : Int32} {x3 : Int32} {s0 : Int32} {r : (Int32 × mS)} (H : RF h m S) (hf : gj150_105 k52 x1 x2 x3 s0 S = some r) : EX (j150_105 f52 (some m) x1 x2 x3 s0 h) (fun z => (r.1, z)) (QS m h r.2) := by
  have F := FM.rfl' (m := m) (h := h)
  unfold gj150_105 at hf
  unfold j150_105
  exact EX.uS F (hk52 H hf)
theorem gj150_100_ok {m : Nat} {k52 : Int32 → Int32 → Int32 → mS → Option (Int32 × mS)} {f52 : Option Nat → Int32 → Int32 → Int32 → xH → Option (Int32 × xH)} (hk52 : ∀ {h : xH} {S : mS} {x1 : Int32} {x2 : Int32} {x3 : Int32} {r : (Int32 × mS)}, RF h m S → k52 x1 x2 x3 S = some r → EX (f52 (some m) x1 x2 x3 h) (fun z => (r.1, z)) (QS m h r.2)) {h : xH} {S : mS} {x1 : Int32} {x2 : Int32} {x3 : Int32} {r : (Int32 × mS)} (H : RF h m S) (hf : gj150_100 k52 x1 x2 x3 S = some r) : EX (j150_100 f52 (some m) x1 x2 x3 h) (fun z => (r.1, z)) (QS m h r.2) := by
  have F := FM.rfl' (m := m) (h := h)
  unfold gj150_100 at hf
  unfold j150_100
  exact EX.uS F (gj150_105_ok (k52 := k52) (f52 := f52) hk52 H hf)
theorem gl150_52_ok {m : Nat} : ∀ (n : Nat) {h : xH} {S : mS} {x1 : Int32} {x2 : Int32} {x3 : Int32} {r : (Int32 × mS)} (H : RF h m S), gl150_52 n x1 x2 x3 S = some r → EX (l150_52 n (some m) x1 x2 x3 h) (fun z => (r.1, z)) (QS m h r.2) := by
  intro n
  induction n with
  | zero => intros; rename_i hf; cases hf
  | succ n ih =>
    intro h S x1 x2 x3 r H hf
    have F := FM.rfl' (m := m) (h := h)
    replace hf : ((if (S.1 1) ≤ x3 then gj150_112 x1 x2 x3 S else (if x2 = 0 then gj150_112 x1 x2 x3 S else (sLd S 0 x3).bind fun v_3 => (g145 v_3 S).bind fun r_5 => (if r_5.1 = 0 then (sLd r_5.2 0 x3).bind fun v_7 => (g146 v_7 r_5.2).bind fun r_9 => (if r_9.1 = 0 then (sLd r_9.2 0 x3).bind fun v_11 => (g147 v_11 r_9.2).bind fun r_13 => (if r_13.1 = 0 then gj150_105 (gl150_52 n) x1 x2 x3 0 r_13.2 else gj150_100 (gl150_52 n) x1 x2 x3 r_13.2) else gj150_100 (gl150_52 n) x1 x2 x3 r_9.2) else gj150_100 (gl150_52 n) x1 x2 x3 r_5.2)))) = some r := hf
    unfold l150_52
    refine EX.bd (H.gI 1) ?_
    by_cases c_1 : (S.1 1) ≤ x3
    · replace hf := x_pos c_1 hf
      refine EX.pos c_1 ?_
      exact EX.uS F (gj150_112_ok H hf)
    · replace hf := x_neg c_1 hf
      refine EX.neg c_1 ?_
      by_cases c_2 : x2 = 0
      · replace hf := x_pos c_2 hf
        refine EX.pos c_2 ?_
        exact EX.uS F (gj150_112_ok H hf)
      · replace hf := x_neg c_2 hf
        refine EX.neg c_2 ?_
        refine EX.bd (H.gR 0) ?_
        obtain ⟨v_3, ev_3, hf⟩ := x_bind hf
        refine EX.bd (H.aI (by decide) ev_3) ?_
        obtain ⟨r_5, er_5, hf⟩ := x_bind hf
        obtain ⟨h_4, eh_4, H, F_⟩ := g145_ok H er_5
        refine EX.bd eh_4 ?_
        dsimp only
        replace F := F.tr F_
        by_cases c_6 : r_5.1 = 0
        · replace hf := x_pos c_6 hf
          refine EX.pos c_6 ?_
          refine EX.bd (H.gR 0) ?_
          obtain ⟨v_7, ev_7, hf⟩ := x_bind hf
          refine EX.bd (H.aI (by decide) ev_7) ?_
          obtain ⟨r_9, er_9, hf⟩ := x_bind hf
          obtain ⟨h_8, eh_8, H, F_⟩ := g146_ok H er_9
          refine EX.bd eh_8 ?_
          dsimp only
          replace F := F.tr F_
          by_cases c_10 : r_9.1 = 0
          · replace hf := x_pos c_10 hf
            refine EX.pos c_10 ?_
            refine EX.bd (H.gR 0) ?_
            obtain ⟨v_11, ev_11, hf⟩ := x_bind hf
            refine EX.bd (H.aI (by decide) ev_11) ?_
            obtain ⟨r_13, er_13, hf⟩ := x_bind hf
            obtain ⟨h_12, eh_12, H, F_⟩ := g147_ok H er_13
            refine EX.bd eh_12 ?_
            dsimp only
            replace F := F.tr F_
            by_cases c_14 : r_13.1 = 0
            · replace hf := x_pos c_14 hf
              refine EX.pos c_14 ?_
              exact EX.uS F (gj150_105_ok (k52 := (gl150_52 n)) (f52 := (l150_52 n)) ih H hf)
            · replace hf := x_neg c_14 hf
              refine EX.neg c_14 ?_
              exact EX.uS F (gj150_100_ok (k52 := (gl150_52 n)) (f52 := (l150_52 n)) ih H hf)
          · replace hf := x_neg c_10 hf
            refine EX.neg c_10 ?_
            exact EX.uS F (gj150_100_ok (k52 := (gl150_52 n)) (f52 := (l150_52 n)) ih H hf)
        · replace hf := x_neg c_6 hf
          refine EX.neg c_6 ?_
          exact EX.uS F (gj150_100_ok (k52 := (gl150_52 n)) (f52 := (l150_52 n)) ih H hf)
theorem gj150_49_ok {m : Nat} {h : xH} {S : mS} {x1 : Int32} {s0 : Int32} {r : (Int32 × mS)} (H : RF h m S) (hf : gj150_49 x1 s0 S = some r) : EX (j150_49 (some m) x1 s0 h) (fun z => (r.1, z)) (QS m h r.2) := by
  have F := FM.rfl' (m := m) (h := h)
  unfold gj150_49 at hf
  unfold j150_49
  exact EX.uS F (gl150_52_ok xFuel H hf)
theorem gj150_48_ok {m : Nat} {h : xH} {S : mS} {x1 : Int32} {r : (Int32 × mS)} (H : RF h m S) (hf : gj150_48 x1 S = some r) : EX (j150_48 (some m) x1 h) (fun z => (r.1, z)) (QS m h r.2) := by
  have F := FM.rfl' (m := m) (h := h)
  unfold gj150_48 at hf
  unfold j150_48
  exact EX.uS F (gj150_49_ok H hf)
theorem gj150_44_ok {m : Nat} {h : xH} {S : mS} {x1 : Int32} {r : (Int32 × mS)} (H : RF h m S) (hf : gj150_44 x1 S = some r) : EX (j150_44 (some m) x1 h) (fun z => (r.1, z)) (QS m h r.2) := by
  have F := FM.rfl' (m := m) (h := h)
  unfold gj150_44 at hf
  unfold j150_44
  exact EX.uS F (gj150_49_ok H hf)
theorem g150_ok {h : xH} {m : Nat} {S : mS} {x1 : Int32} {r : (Int32 × mS)} (H : RF h m S) (hf : g150 x1 S = some r) : EX (fn150 (some m) x1 h) (fun z => (r.1, z)) (QS m h r.2) := by
  have F := FM.rfl' (m := m) (h := h)
  unfold g150 at hf
  unfold fn150
  refine EX.bd (H.gI 1) ?_
  obtain ⟨r_2, er_2, hf⟩ := x_bind hf
  obtain ⟨h_1, eh_1, H, F_⟩ := g141_ok H er_2
  refine EX.bd eh_1 ?_
  dsimp only
  replace F := F.tr F_
  by_cases c_3 : r_2.1 = 0
  · replace hf := x_pos c_3 hf
    refine EX.pos c_3 ?_
    exact EX.uS F (gj150_48_ok H hf)
  · replace hf := x_neg c_3 hf
    refine EX.neg c_3 ?_
    by_cases c_4 : x1 = 0
    · replace hf := x_pos c_4 hf
      refine EX.pos c_4 ?_
      refine EX.bd (H.gR 0) ?_
      obtain ⟨v_5, ev_5, hf⟩ := x_bind hf
      refine EX.bd (H.aI (by decide) ev_5) ?_
      obtain ⟨r_7, er_7, hf⟩ := x_bind hf
      obtain ⟨h_6, eh_6, H, F_⟩ := g146_ok H er_7
      refine EX.bd eh_6 ?_
      dsimp only
      replace F := F.tr F_
      by_cases c_8 : r_7.1 = 0
      · replace hf := x_pos c_8 hf
        refine EX.pos c_8 ?_
        exact EX.uS F (gj150_48_ok H hf)
      · replace hf := x_neg c_8 hf
        refine EX.neg c_8 ?_
        exact EX.uS F (gj150_44_ok H hf)
    · replace hf := x_neg c_4 hf
      refine EX.neg c_4 ?_
      refine EX.bd (H.gR 0) ?_
      obtain ⟨v_9, ev_9, hf⟩ := x_bind hf
      refine EX.bd (H.aI (by decide) ev_9) ?_
      obtain ⟨r_11, er_11, hf⟩ := x_bind hf
      obtain ⟨h_10, eh_10, H, F_⟩ := g145_ok H er_11
      refine EX.bd eh_10 ?_
      dsimp only
      replace F := F.tr F_
      by_cases c_12 : r_11.1 = 0
      · replace hf := x_pos c_12 hf
        refine EX.pos c_12 ?_
        exact EX.uS F (gj150_48_ok H hf)
      · replace hf := x_neg c_12 hf
        refine EX.neg c_12 ?_
        exact EX.uS F (gj150_44_ok H hf)
end
section
theorem gj151_58_ok {m : Nat} {h : xH} {S : mS} {q1 : Nat} {x2 : Int32} {x3 : Int32} {x4 : Int32} {x5 : Int32} {r : (Int32 × mS)} (H : RF h m S) (tq1 : mQ q1) (hf : gj151_58 q1 x2 x3 x4 x5 S = some r) : EX (j151_58 (some m) (some (m + mO q1)) x2 x3 x4 x5 h) (fun z => (r.1, z)) (QS m h r.2) := by
  have F := FM.rfl' (m := m) (h := h)
  unfold gj151_58 at hf
  unfold j151_58
  by_cases c_1 : x4 &&& 1 = x4
  · replace hf := x_pos c_1 hf
    refine EX.pos c_1 ?_
    obtain rfl := Option.some.inj hf
    exact ⟨_, rfl, H, F⟩
  · replace hf := x_neg c_1 hf
    cases hf
theorem gj151_50_ok {m : Nat} {k18 : Nat → Int32 → Int32 → Int32 → Int32 → mS → Option (Int32 × mS)} {f18 : Option Nat → Option Nat → Int32 → Int32 → Int32 → Int32 → xH → Option (Int32 × xH)} (hk18 : ∀ {h : xH} {S : mS} {q1 : Nat} {x2 : Int32} {x3 : Int32} {x4 : Int32} {x5 : Int32} {r : (Int32 × mS)}, RF h m S → mQ q1 → k18 q1 x2 x3 x4 x5 S = some r → EX (f18 (some m) (some (m + mO q1)) x2 x3 x4 x5 h) (fun z => (r.1, z)) (QS m h r.2)) {h : xH} {S : mS} {q1 : Nat} {x2 : Int32} {x3 : Int32} {x4 : Int32} {x5 : Int32} {s0 : Int32} {r : (Int32 × mS)} (H : RF h m S) (tq1 : mQ q1) (hf : gj151_50 k18 q1 x2 x3 x4 x5 s0 S = some r) : EX (j151_50 f18 (some m) (some (m + mO q1)) x2 x3 x4 x5 s0 h) (fun z => (r.1, z)) (QS m h r.2) := by
  have F := FM.rfl' (m := m) (h := h)
  unfold gj151_50 at hf
  unfold j151_50
  exact EX.uS F (hk18 H tq1 hf)
theorem gl151_18_ok {m : Nat} : ∀ (n : Nat) {h : xH} {S : mS} {q1 : Nat} {x2 : Int32} {x3 : Int32} {x4 : Int32} {x5 : Int32} {r : (Int32 × mS)} (H : RF h m S) (tq1 : mQ q1), gl151_18 n q1 x2 x3 x4 x5 S = some r → EX (l151_18 n (some m) (some (m + mO q1)) x2 x3 x4 x5 h) (fun z => (r.1, z)) (QS m h r.2) := by
  intro n
  induction n with
  | zero => intros; rename_i hf; cases hf
  | succ n ih =>
    intro h S q1 x2 x3 x4 x5 r H tq1 hf
    have F := FM.rfl' (m := m) (h := h)
    replace hf : ((if x3 ≤ x5 then gj151_58 q1 x2 x3 x4 x5 S else (if x4 = 0 then gj151_58 q1 x2 x3 x4 x5 S else (sLd S q1 (x2 + x5)).bind fun v_3 => (sLd S 0 x5).bind fun v_4 => (if v_3 = v_4 then gj151_50 (gl151_18 n) q1 x2 x3 x4 x5 1 S else gj151_50 (gl151_18 n) q1 x2 x3 x4 x5 0 S)))) = some r := hf
    unfold l151_18
    by_cases c_1 : x3 ≤ x5
    · replace hf := x_pos c_1 hf
      refine EX.pos c_1 ?_
      exact EX.uS F (gj151_58_ok H tq1 hf)
    · replace hf := x_neg c_1 hf
      refine EX.neg c_1 ?_
      by_cases c_2 : x4 = 0
      · replace hf := x_pos c_2 hf
        refine EX.pos c_2 ?_
        exact EX.uS F (gj151_58_ok H tq1 hf)
      · replace hf := x_neg c_2 hf
        refine EX.neg c_2 ?_
        obtain ⟨v_3, ev_3, hf⟩ := x_bind hf
        refine EX.bd (H.aI tq1 ev_3) ?_
        refine EX.bd (H.gR 0) ?_
        obtain ⟨v_4, ev_4, hf⟩ := x_bind hf
        refine EX.bd (H.aI (by decide) ev_4) ?_
        by_cases c_5 : v_3 = v_4
        · replace hf := x_pos c_5 hf
          refine EX.pos c_5 ?_
          exact EX.uS F (gj151_50_ok (k18 := (gl151_18 n)) (f18 := (l151_18 n)) ih H tq1 hf)
        · replace hf := x_neg c_5 hf
          refine EX.neg c_5 ?_
          exact EX.uS F (gj151_50_ok (k18 := (gl151_18 n)) (f18 := (l151_18 n)) ih H tq1 hf)
theorem gj151_13_ok {m : Nat} {h : xH} {S : mS} {q1 : Nat} {x2 : Int32} {x3 : Int32} {s0 : Int32} {r : (Int32 × mS)} (H : RF h m S) (tq1 : mQ q1) (hf : gj151_13 q1 x2 x3 s0 S = some r) : EX (j151_13 (some m) (some (m + mO q1)) x2 x3 s0 h) (fun z => (r.1, z)) (QS m h r.2) := by
  have F := FM.rfl' (m := m) (h := h)
  unfold gj151_13 at hf
  unfold j151_13
  exact EX.uS F (gl151_18_ok xFuel H tq1 hf)
theorem g151_ok {h : xH} {m : Nat} {S : mS} {q1 : Nat} {x2 : Int32} {x3 : Int32} {r : (Int32 × mS)} (H : RF h m S) (tq1 : mQ q1) (hf : g151 q1 x2 x3 S = some r) : EX (fn151 (some m) (some (m + mO q1)) x2 x3 h) (fun z => (r.1, z)) (QS m h r.2) := by
  have F := FM.rfl' (m := m) (h := h)
  unfold g151 at hf
  unfold fn151
  refine EX.bd (H.gI 1) ?_
  by_cases c_1 : x3 = (S.1 1)
  · replace hf := x_pos c_1 hf
    refine EX.pos c_1 ?_
    exact EX.uS F (gj151_13_ok H tq1 hf)
  · replace hf := x_neg c_1 hf
    refine EX.neg c_1 ?_
    exact EX.uS F (gj151_13_ok H tq1 hf)
end
section
theorem gl152_95_ok {m : Nat} : ∀ (n : Nat) {h : xH} {S : mS} {x1 : Int32} {x2 : Int32} {x3 : Int32} {x4 : Int32} {x5 : Int32} {x6 : Int32} {r : (Int32 × mS)} (H : RF h m S), gl152_95 n x1 x2 x3 x4 x5 x6 S = some r → EX (l152_95 n (some m) x1 x2 x3 x4 x5 x6 h) (fun z => (r.1, z)) (QS m h r.2) := by
  intro n
  induction n with
  | zero => intros; rename_i hf; cases hf
  | succ n ih =>
    intro h S x1 x2 x3 x4 x5 x6 r H hf
    have F := FM.rfl' (m := m) (h := h)
    replace hf : ((if (S.1 1) ≤ x6 then some (x5, S) else (sLd S 0 x6).bind fun v_2 => (sSt S 7 ((10 * x5) + x6) v_2).bind fun S_3 => gl152_95 n x1 x2 x3 x4 x5 (x6 + 1) S_3)) = some r := hf
    unfold l152_95
    refine EX.bd (H.gI 1) ?_
    by_cases c_1 : (S.1 1) ≤ x6
    · replace hf := x_pos c_1 hf
      refine EX.pos c_1 ?_
      obtain rfl := Option.some.inj hf
      exact ⟨_, rfl, H, F⟩
    · replace hf := x_neg c_1 hf
      refine EX.neg c_1 ?_
      refine EX.bd (H.gR 7) ?_
      refine EX.bd (H.gR 0) ?_
      obtain ⟨v_2, ev_2, hf⟩ := x_bind hf
      refine EX.bd (H.aI (by decide) ev_2) ?_
      obtain ⟨S_3, eS_3, hf⟩ := x_bind hf
      obtain ⟨h_4, eh_4, H, F_⟩ := H.aS (by decide) eS_3
      refine EX.bd eh_4 ?_
      replace F := F.tr F_
      exact EX.uS F (ih H hf)
theorem g152_ok {h : xH} {m : Nat} {S : mS} {x1 : Int32} {x2 : Int32} {x3 : Int32} {x4 : Int32} {r : (Int32 × mS)} (H : RF h m S) (hf : g152 x1 x2 x3 x4 S = some r) : EX (fn152 (some m) x1 x2 x3 x4 h) (fun z => (r.1, z)) (QS m h r.2) := by
  have F := FM.rfl' (m := m) (h := h)
  unfold g152 at hf
  unfold fn152
  refine EX.bd (H.gI 2) ?_
  refine EX.bd (H.gI 2) ?_
  obtain ⟨S_1, eS_1, hf⟩ := x_bind hf
  obtain ⟨h_2, eh_2, H, F_⟩ := H.pF 2 (xfit_int _) eS_1
  refine EX.bd eh_2 ?_
  replace F := F.tr F_
  refine EX.bd (H.gR 3) ?_
  obtain ⟨S_3, eS_3, hf⟩ := x_bind hf
  obtain ⟨h_4, eh_4, H, F_⟩ := H.aB (by decide) eS_3
  refine EX.bd eh_4 ?_
  replace F := F.tr F_
  refine EX.bd (H.gR 4) ?_
  obtain ⟨S_5, eS_5, hf⟩ := x_bind hf
  obtain ⟨h_6, eh_6, H, F_⟩ := H.aS (by decide) eS_5
  refine EX.bd eh_6 ?_
  replace F := F.tr F_
  refine EX.bd (H.gR 5) ?_
  obtain ⟨S_7, eS_7, hf⟩ := x_bind hf
  obtain ⟨h_8, eh_8, H, F_⟩ := H.aS (by decide) eS_7
  refine EX.bd eh_8 ?_
  replace F := F.tr F_
  refine EX.bd (H.gR 6) ?_
  obtain ⟨S_9, eS_9, hf⟩ := x_bind hf
  obtain ⟨h_10, eh_10, H, F_⟩ := H.aB (by decide) eS_9
  refine EX.bd eh_10 ?_
  replace F := F.tr F_
  refine EX.bd (H.gR 9) ?_
  obtain ⟨S_11, eS_11, hf⟩ := x_bind hf
  obtain ⟨h_12, eh_12, H, F_⟩ := H.aS (by decide) eS_11
  refine EX.bd eh_12 ?_
  replace F := F.tr F_
  refine EX.bd (H.gR 13) ?_
  obtain ⟨S_13, eS_13, hf⟩ := x_bind hf
  obtain ⟨h_14, eh_14, H, F_⟩ := H.aS (by decide) eS_13
  refine EX.bd eh_14 ?_
  replace F := F.tr F_
  refine EX.bd (H.gR 14) ?_
  obtain ⟨S_15, eS_15, hf⟩ := x_bind hf
  obtain ⟨h_16, eh_16, H, F_⟩ := H.aS (by decide) eS_15
  refine EX.bd eh_16 ?_
  replace F := F.tr F_
  refine EX.bd (H.gR 15) ?_
  obtain ⟨S_17, eS_17, hf⟩ := x_bind hf
  obtain ⟨h_18, eh_18, H, F_⟩ := H.aS (by decide) eS_17
  refine EX.bd eh_18 ?_
  replace F := F.tr F_
  refine EX.bd (H.gR 8) ?_
  refine EX.bd (H.gI 1) ?_
  obtain ⟨S_19, eS_19, hf⟩ := x_bind hf
  obtain ⟨h_20, eh_20, H, F_⟩ := H.aS (by decide) eS_19
  refine EX.bd eh_20 ?_
  replace F := F.tr F_
  exact EX.uS F (gl152_95_ok xFuel H hf)
end
section
theorem gj153_114_ok {m : Nat} {h : xH} {S : mS} {x1 : Int32} {x2 : Int32} {x3 : Int32} {s0 : Int32} {r : (Int32 × mS)} (H : RF h m S) (hf : gj153_114 x1 x2 x3 s0 S = some r) : EX (j153_114 (some m) x1 x2 x3 s0 h) (fun z => (r.1, z)) (QS m h r.2) := by
  have F := FM.rfl' (m := m) (h := h)
  unfold gj153_114 at hf
  unfold j153_114
  obtain ⟨S_1, eS_1, hf⟩ := x_bind hf
  obtain ⟨h_2, eh_2, H, F_⟩ := H.pF 1 (xfit_int _) eS_1
  refine EX.bd eh_2 ?_
  replace F := F.tr F_
  obtain rfl := Option.some.inj hf
  exact ⟨_, rfl, H, F⟩
theorem gj153_84_ok {m : Nat} {h : xH} {S : mS} {x1 : Int32} {x2 : Int32} {x3 : Int32} {r : (Int32 × mS)} (H : RF h m S) (hf : gj153_84 x1 x2 x3 S = some r) : EX (j153_84 (some m) x1 x2 x3 h) (fun z => (r.1, z)) (QS m h r.2) := by
  have F := FM.rfl' (m := m) (h := h)
  unfold gj153_84 at hf
  unfold j153_84
  by_cases c_1 : x2 = 0
  · replace hf := x_pos c_1 hf
    refine EX.pos c_1 ?_
    exact EX.uS F (gj153_114_ok H hf)
  · replace hf := x_neg c_1 hf
    refine EX.neg c_1 ?_
    refine EX.bd (H.gI 2) ?_
    by_cases c_2 : (S.1 2) = 40
    · replace hf := x_pos c_2 hf
      refine EX.pos c_2 ?_
      exact EX.uS F (gj153_114_ok H hf)
    · replace hf := x_neg c_2 hf
      refine EX.neg c_2 ?_
      have Hc_ := H.cv
      obtain ⟨r_4, er_4, hf⟩ := x_bind hf
      obtain ⟨h_3, eh_3, H, F_⟩ := g152_ok H er_4
      refine EX.bd Hc_ ?_
      refine EX.bd eh_3 ?_
      dsimp only
      replace F := F.tr F_
      exact EX.uS F (gj153_114_ok H hf)
theorem gj153_77_ok {m : Nat} {k30 : Int32 → Int32 → Int32 → mS → Option (Int32 × mS)} {f30 : Option Nat → Int32 → Int32 → Int32 → xH → Option (Int32 × xH)} (hk30 : ∀ {h : xH} {S : mS} {x1 : Int32} {x2 : Int32} {x3 : Int32} {r : (Int32 × mS)}, RF h m S → k30 x1 x2 x3 S = some r → EX (f30 (some m) x1 x2 x3 h) (fun z => (r.1, z)) (QS m h r.2)) {h : xH} {S : mS} {x1 : Int32} {x2 : Int32} {x3 : Int32} {s0 : Int32} {r : (Int32 × mS)} (H : RF h m S) (hf : gj153_77 k30 x1 x2 x3 s0 S = some r) : EX (j153_77 f30 (some m) x1 x2 x3 s0 h) (fun z => (r.1, z)) (QS m h r.2) := by
  have F := FM.rfl' (m := m) (h := h)
  unfold gj153_77 at hf
  unfold j153_77
  exact EX.uS F (hk30 H hf)
theorem gj153_72_ok {m : Nat} {k30 : Int32 → Int32 → Int32 → mS → Option (Int32 × mS)} {f30 : Option Nat → Int32 → Int32 → Int32 → xH → Option (Int32 × xH)} (hk30 : ∀ {h : xH} {S : mS} {x1 : Int32} {x2 : Int32} {x3 : Int32} {r : (Int32 × mS)}, RF h m S → k30 x1 x2 x3 S = some r → EX (f30 (some m) x1 x2 x3 h) (fun z => (r.1, z)) (QS m h r.2)) {h : xH} {S : mS} {x1 : Int32} {x2 : Int32} {x3 : Int32} {r : (Int32 × mS)} (H : RF h m S) (hf : gj153_72 k30 x1 x2 x3 S = some r) : EX (j153_72 f30 (some m) x1 x2 x3 h) (fun z => (r.1, z)) (QS m h r.2) := by
  have F := FM.rfl' (m := m) (h := h)
  unfold gj153_72 at hf
  unfold j153_72
  exact EX.uS F (gj153_77_ok (k30 := k30) (f30 := f30) hk30 H hf)
theorem gl153_30_ok {m : Nat} : ∀ (n : Nat) {h : xH} {S : mS} {x1 : Int32} {x2 : Int32} {x3 : Int32} {r : (Int32 × mS)} (H : RF h m S), gl153_30 n x1 x2 x3 S = some r → EX (l153_30 n (some m) x1 x2 x3 h) (fun z => (r.1, z)) (QS m h r.2) := by
  intro n
  induction n with
  | zero => intros; rename_i hf; cases hf
  | succ n ih =>
    intro h S x1 x2 x3 r H hf
    have F := FM.rfl' (m := m) (h := h)
    replace hf : ((if (S.1 2) ≤ x3 then gj153_84 x1 x2 x3 S else (if x2 = 0 then gj153_84 x1 x2 x3 S else (sLd S 3 x3).bind fun v_3 => (if v_3 = 0 then gj153_72 (gl153_30 n) x1 x2 x3 S else (sLd S 8 x3).bind fun v_5 => (g151 7 (10 * x3) v_5 S).bind fun r_7 => (if r_7.1 = 0 then gj153_72 (gl153_30 n) x1 x2 x3 r_7.2 else gj153_77 (gl153_30 n) x1 x2 x3 0 r_7.2))))) = some r := hf
    unfold l153_30
    refine EX.bd (H.gI 2) ?_
    by_cases c_1 : (S.1 2) ≤ x3
    · replace hf := x_pos c_1 hf
      refine EX.pos c_1 ?_
      exact EX.uS F (gj153_84_ok H hf)
    · replace hf := x_neg c_1 hf
      refine EX.neg c_1 ?_
      by_cases c_2 : x2 = 0
      · replace hf := x_pos c_2 hf
        refine EX.pos c_2 ?_
        exact EX.uS F (gj153_84_ok H hf)
      · replace hf := x_neg c_2 hf
        refine EX.neg c_2 ?_
        refine EX.bd (H.gR 3) ?_
        obtain ⟨v_3, ev_3, hf⟩ := x_bind hf
        refine EX.bd (H.aZ (by decide) ev_3) ?_
        by_cases c_4 : v_3 = 0
        · replace hf := x_pos c_4 hf
          refine EX.pos c_4 ?_
          exact EX.uS F (gj153_72_ok (k30 := (gl153_30 n)) (f30 := (l153_30 n)) ih H hf)
        · replace hf := x_neg c_4 hf
          refine EX.neg c_4 ?_
          refine EX.bd (H.gR 7) ?_
          refine EX.bd (H.gR 8) ?_
          obtain ⟨v_5, ev_5, hf⟩ := x_bind hf
          refine EX.bd (H.aI (by decide) ev_5) ?_
          have Hc_ := H.cv
          obtain ⟨r_7, er_7, hf⟩ := x_bind hf
          obtain ⟨h_6, eh_6, H, F_⟩ := g151_ok H (by decide) er_7
          refine EX.bd Hc_ ?_
          refine EX.bd eh_6 ?_
          dsimp only
          replace F := F.tr F_
          by_cases c_8 : r_7.1 = 0
          · replace hf := x_pos c_8 hf
            refine EX.pos c_8 ?_
            exact EX.uS F (gj153_72_ok (k30 := (gl153_30 n)) (f30 := (l153_30 n)) ih H hf)
          · replace hf := x_neg c_8 hf
            refine EX.neg c_8 ?_
            exact EX.uS F (gj153_77_ok (k30 := (gl153_30 n)) (f30 := (l153_30 n)) ih H hf)
theorem gj153_27_ok {m : Nat} {h : xH} {S : mS} {x1 : Int32} {s0 : Int32} {r : (Int32 × mS)} (H : RF h m S) (hf : gj153_27 x1 s0 S = some r) : EX (j153_27 (some m) x1 s0 h) (fun z => (r.1, z)) (QS m h r.2) := by
  have F := FM.rfl' (m := m) (h := h)
  unfold gj153_27 at hf
  unfold j153_27
  exact EX.uS F (gl153_30_ok xFuel H hf)
theorem gj153_26_ok {m : Nat} {h : xH} {S : mS} {x1 : Int32} {r : (Int32 × mS)} (H : RF h m S) (hf : gj153_26 x1 S = some r) : EX (j153_26 (some m) x1 h) (fun z => (r.1, z)) (QS m h r.2) := by
  have F := FM.rfl' (m := m) (h := h)
  unfold gj153_26 at hf
  unfold j153_26
  exact EX.uS F (gj153_27_ok H hf)
theorem gj153_14_ok {m : Nat} {h : xH} {S : mS} {x1 : Int32} {r : (Int32 × mS)} (H : RF h m S) (hf : gj153_14 x1 S = some r) : EX (j153_14 (some m) x1 h) (fun z => (r.1, z)) (QS m h r.2) := by
  have F := FM.rfl' (m := m) (h := h)
  unfold gj153_14 at hf
  unfold j153_14
  have Hc_ := H.cv
  obtain ⟨r_2, er_2, hf⟩ := x_bind hf
  obtain ⟨h_1, eh_1, H, F_⟩ := g150_ok H er_2
  refine EX.bd Hc_ ?_
  refine EX.bd eh_1 ?_
  dsimp only
  replace F := F.tr F_
  by_cases c_3 : r_2.1 = 0
  · replace hf := x_pos c_3 hf
    refine EX.pos c_3 ?_
    exact EX.uS F (gj153_26_ok H hf)
  · replace hf := x_neg c_3 hf
    refine EX.neg c_3 ?_
    exact EX.uS F (gj153_27_ok H hf)
theorem g153_ok {h : xH} {m : Nat} {S : mS} {x1 : Int32} {r : (Int32 × mS)} (H : RF h m S) (hf : g153 x1 S = some r) : EX (fn153 (some m) x1 h) (fun z => (r.1, z)) (QS m h r.2) := by
  have F := FM.rfl' (m := m) (h := h)
  unfold g153 at hf
  unfold fn153
  by_cases c_1 : x1 = (-1)
  · replace hf := x_pos c_1 hf
    refine EX.pos c_1 ?_
    exact EX.uS F (gj153_14_ok H hf)
  · replace hf := x_neg c_1 hf
    refine EX.neg c_1 ?_
    have Hc_ := H.cv
    obtain ⟨r_3, er_3, hf⟩ := x_bind hf
    obtain ⟨h_2, eh_2, H, F_⟩ := g149_ok H er_3
    refine EX.bd Hc_ ?_
    refine EX.bd eh_2 ?_
    dsimp only
    replace F := F.tr F_
    by_cases c_4 : r_3.1 = 0
    · replace hf := x_pos c_4 hf
      refine EX.pos c_4 ?_
      exact EX.uS F (gj153_26_ok H hf)
    · replace hf := x_neg c_4 hf
      refine EX.neg c_4 ?_
      exact EX.uS F (gj153_14_ok H hf)
end
section
theorem gj154_125_ok {m : Nat} {h : xH} {S : mS} {x1 : Int32} {x2 : Int32} {x3 : Int32} {x4 : Int32} {s0 : Int32} {r : (Int32 × mS)} (H : RF h m S) (hf : gj154_125 x1 x2 x3 x4 s0 S = some r) : EX (j154_125 (some m) x1 x2 x3 x4 s0 h) (fun z => (r.1, z)) (QS m h r.2) := by
  have F := FM.rfl' (m := m) (h := h)
  unfold gj154_125 at hf
  unfold j154_125
  obtain ⟨S_1, eS_1, hf⟩ := x_bind hf
  obtain ⟨h_2, eh_2, H, F_⟩ := H.pF 1 (xfit_int _) eS_1
  refine EX.bd eh_2 ?_
  replace F := F.tr F_
  obtain rfl := Option.some.inj hf
  exact ⟨_, rfl, H, F⟩
theorem gj154_95_ok {m : Nat} {h : xH} {S : mS} {x1 : Int32} {x2 : Int32} {x3 : Int32} {x4 : Int32} {r : (Int32 × mS)} (H : RF h m S) (hf : gj154_95 x1 x2 x3 x4 S = some r) : EX (j154_95 (some m) x1 x2 x3 x4 h) (fun z => (r.1, z)) (QS m h r.2) := by
  have F := FM.rfl' (m := m) (h := h)
  unfold gj154_95 at hf
  unfold j154_95
  by_cases c_1 : x3 = 0
  · replace hf := x_pos c_1 hf
    refine EX.pos c_1 ?_
    exact EX.uS F (gj154_125_ok H hf)
  · replace hf := x_neg c_1 hf
    refine EX.neg c_1 ?_
    refine EX.bd (H.gI 2) ?_
    by_cases c_2 : (S.1 2) = 40
    · replace hf := x_pos c_2 hf
      refine EX.pos c_2 ?_
      exact EX.uS F (gj154_125_ok H hf)
    · replace hf := x_neg c_2 hf
      refine EX.neg c_2 ?_
      have Hc_ := H.cv
      obtain ⟨r_4, er_4, hf⟩ := x_bind hf
      obtain ⟨h_3, eh_3, H, F_⟩ := g152_ok H er_4
      refine EX.bd Hc_ ?_
      refine EX.bd eh_3 ?_
      dsimp only
      replace F := F.tr F_
      exact EX.uS F (gj154_125_ok H hf)
theorem gj154_88_ok {m : Nat} {k26 : Int32 → Int32 → Int32 → Int32 → mS → Option (Int32 × mS)} {f26 : Option Nat → Int32 → Int32 → Int32 → Int32 → xH → Option (Int32 × xH)} (hk26 : ∀ {h : xH} {S : mS} {x1 : Int32} {x2 : Int32} {x3 : Int32} {x4 : Int32} {r : (Int32 × mS)}, RF h m S → k26 x1 x2 x3 x4 S = some r → EX (f26 (some m) x1 x2 x3 x4 h) (fun z => (r.1, z)) (QS m h r.2)) {h : xH} {S : mS} {x1 : Int32} {x2 : Int32} {x3 : Int32} {x4 : Int32} {s0 : Int32} {r : (Int32 × mS)} (H : RF h m S) (hf : gj154_88 k26 x1 x2 x3 x4 s0 S = some r) : EX (j154_88 f26 (some m) x1 x2 x3 x4 s0 h) (fun z => (r.1, z)) (QS m h r.2) := by
  have F := FM.rfl' (m := m) (h := h)
  unfold gj154_88 at hf
  unfold j154_88
  exact EX.uS F (hk26 H hf)
theorem gj154_83_ok {m : Nat} {k26 : Int32 → Int32 → Int32 → Int32 → mS → Option (Int32 × mS)} {f26 : Option Nat → Int32 → Int32 → Int32 → Int32 → xH → Option (Int32 × xH)} (hk26 : ∀ {h : xH} {S : mS} {x1 : Int32} {x2 : Int32} {x3 : Int32} {x4 : Int32} {r : (Int32 × mS)}, RF h m S → k26 x1 x2 x3 x4 S = some r → EX (f26 (some m) x1 x2 x3 x4 h) (fun z => (r.1, z)) (QS m h r.2)) {h : xH} {S : mS} {x1 : Int32} {x2 : Int32} {x3 : Int32} {x4 : Int32} {r : (Int32 × mS)} (H : RF h m S) (hf : gj154_83 k26 x1 x2 x3 x4 S = some r) : EX (j154_83 f26 (some m) x1 x2 x3 x4 h) (fun z => (r.1, z)) (QS m h r.2) := by
  have F := FM.rfl' (m := m) (h := h)
  unfold gj154_83 at hf
  unfold j154_83
  exact EX.uS F (gj154_88_ok (k26 := k26) (f26 := f26) hk26 H hf)
theorem gl154_26_ok {m : Nat} : ∀ (n : Nat) {h : xH} {S : mS} {x1 : Int32} {x2 : Int32} {x3 : Int32} {x4 : Int32} {r : (Int32 × mS)} (H : RF h m S), gl154_26 n x1 x2 x3 x4 S = some r → EX (l154_26 n (some m) x1 x2 x3 x4 h) (fun z => (r.1, z)) (QS m h r.2) := by
  intro n
  induction n with
  | zero => intros; rename_i hf; cases hf
  | succ n ih =>
    intro h S x1 x2 x3 x4 r H hf
    have F := FM.rfl' (m := m) (h := h)
    replace hf : ((if (S.1 2) ≤ x4 then gj154_95 x1 x2 x3 x4 S else (if x3 = 0 then gj154_95 x1 x2 x3 x4 S else (sLd S 3 x4).bind fun v_3 => (if v_3 = 0 then (sLd S 4 x4).bind fun v_5 => (if v_5 = x1 then (sLd S 8 x4).bind fun v_7 => (g151 7 (10 * x4) v_7 S).bind fun r_9 => (if r_9.1 = 0 then gj154_83 (gl154_26 n) x1 x2 x3 x4 r_9.2 else gj154_88 (gl154_26 n) x1 x2 x3 x4 0 r_9.2) else gj154_83 (gl154_26 n) x1 x2 x3 x4 S) else gj154_83 (gl154_26 n) x1 x2 x3 x4 S)))) = some r := hf
    unfold l154_26
    refine EX.bd (H.gI 2) ?_
    by_cases c_1 : (S.1 2) ≤ x4
    · replace hf := x_pos c_1 hf
      refine EX.pos c_1 ?_
      exact EX.uS F (gj154_95_ok H hf)
    · replace hf := x_neg c_1 hf
      refine EX.neg c_1 ?_
      by_cases c_2 : x3 = 0
      · replace hf := x_pos c_2 hf
        refine EX.pos c_2 ?_
        exact EX.uS F (gj154_95_ok H hf)
      · replace hf := x_neg c_2 hf
        refine EX.neg c_2 ?_
        refine EX.bd (H.gR 3) ?_
        obtain ⟨v_3, ev_3, hf⟩ := x_bind hf
        refine EX.bd (H.aZ (by decide) ev_3) ?_
        by_cases c_4 : v_3 = 0
        · replace hf := x_pos c_4 hf
          refine EX.pos c_4 ?_
          refine EX.bd (H.gR 4) ?_
          obtain ⟨v_5, ev_5, hf⟩ := x_bind hf
          refine EX.bd (H.aI (by decide) ev_5) ?_
          by_cases c_6 : v_5 = x1
          · replace hf := x_pos c_6 hf
            refine EX.pos c_6 ?_
            refine EX.bd (H.gR 7) ?_
            refine EX.bd (H.gR 8) ?_
            obtain ⟨v_7, ev_7, hf⟩ := x_bind hf
            refine EX.bd (H.aI (by decide) ev_7) ?_
            have Hc_ := H.cv
            obtain ⟨r_9, er_9, hf⟩ := x_bind hf
            obtain ⟨h_8, eh_8, H, F_⟩ := g151_ok H (by decide) er_9
            refine EX.bd Hc_ ?_
            refine EX.bd eh_8 ?_
            dsimp only
            replace F := F.tr F_
            by_cases c_10 : r_9.1 = 0
            · replace hf := x_pos c_10 hf
              refine EX.pos c_10 ?_
              exact EX.uS F (gj154_83_ok (k26 := (gl154_26 n)) (f26 := (l154_26 n)) ih H hf)
            · replace hf := x_neg c_10 hf
              refine EX.neg c_10 ?_
              exact EX.uS F (gj154_88_ok (k26 := (gl154_26 n)) (f26 := (l154_26 n)) ih H hf)
          · replace hf := x_neg c_6 hf
            refine EX.neg c_6 ?_
            exact EX.uS F (gj154_83_ok (k26 := (gl154_26 n)) (f26 := (l154_26 n)) ih H hf)
        · replace hf := x_neg c_4 hf
          refine EX.neg c_4 ?_
          exact EX.uS F (gj154_83_ok (k26 := (gl154_26 n)) (f26 := (l154_26 n)) ih H hf)
theorem gj154_22_ok {m : Nat} {h : xH} {S : mS} {x1 : Int32} {x2 : Int32} {s0 : Int32} {r : (Int32 × mS)} (H : RF h m S) (hf : gj154_22 x1 x2 s0 S = some r) : EX (j154_22 (some m) x1 x2 s0 h) (fun z => (r.1, z)) (QS m h r.2) := by
  have F := FM.rfl' (m := m) (h := h)
  unfold gj154_22 at hf
  unfold j154_22
  exact EX.uS F (gl154_26_ok xFuel H hf)
theorem gj154_21_ok {m : Nat} {h : xH} {S : mS} {x1 : Int32} {x2 : Int32} {r : (Int32 × mS)} (H : RF h m S) (hf : gj154_21 x1 x2 S = some r) : EX (j154_21 (some m) x1 x2 h) (fun z => (r.1, z)) (QS m h r.2) := by
  have F := FM.rfl' (m := m) (h := h)
  unfold gj154_21 at hf
  unfold j154_21
  exact EX.uS F (gj154_22_ok H hf)
theorem g154_ok {h : xH} {m : Nat} {S : mS} {x1 : Int32} {x2 : Int32} {r : (Int32 × mS)} (H : RF h m S) (hf : g154 x1 x2 S = some r) : EX (fn154 (some m) x1 x2 h) (fun z => (r.1, z)) (QS m h r.2) := by
  have F := FM.rfl' (m := m) (h := h)
  unfold g154 at hf
  unfold fn154
  have Hc_ := H.cv
  obtain ⟨r_2, er_2, hf⟩ := x_bind hf
  obtain ⟨h_1, eh_1, H, F_⟩ := g149_ok H er_2
  refine EX.bd Hc_ ?_
  refine EX.bd eh_1 ?_
  dsimp only
  replace F := F.tr F_
  by_cases c_3 : r_2.1 = 0
  · replace hf := x_pos c_3 hf
    refine EX.pos c_3 ?_
    exact EX.uS F (gj154_21_ok H hf)
  · replace hf := x_neg c_3 hf
    refine EX.neg c_3 ?_
    have Hc_ := H.cv
    obtain ⟨r_5, er_5, hf⟩ := x_bind hf
    obtain ⟨h_4, eh_4, H, F_⟩ := g150_ok H er_5
    refine EX.bd Hc_ ?_
    refine EX.bd eh_4 ?_
    dsimp only
    replace F := F.tr F_
    by_cases c_6 : r_5.1 = 0
    · replace hf := x_pos c_6 hf
      refine EX.pos c_6 ?_
      exact EX.uS F (gj154_21_ok H hf)
    · replace hf := x_neg c_6 hf
      refine EX.neg c_6 ?_
      exact EX.uS F (gj154_22_ok H hf)
end
section
theorem gj155_184_ok {m : Nat} {h : xH} {S : mS} {x1 : Int32} {x2 : Int32} {x3 : Int32} {r : (Int32 × mS)} (H : RF h m S) (hf : gj155_184 x1 x2 x3 S = some r) : EX (j155_184 (some m) x1 x2 x3 h) (fun z => (r.1, z)) (QS m h r.2) := by
  have F := FM.rfl' (m := m) (h := h)
  unfold gj155_184 at hf
  unfold j155_184
  obtain ⟨S_1, eS_1, hf⟩ := x_bind hf
  obtain ⟨h_2, eh_2, H, F_⟩ := H.pF 1 (xfit_int _) eS_1
  refine EX.bd eh_2 ?_
  replace F := F.tr F_
  obtain rfl := Option.some.inj hf
  exact ⟨_, rfl, H, F⟩
theorem gl155_132_ok {m : Nat} : ∀ (n : Nat) {h : xH} {S : mS} {x1 : Int32} {x2 : Int32} {x3 : Int32} {x4 : Int32} {x5 : Int32} {r : (Int32 × mS)} (H : RF h m S), gl155_132 n x1 x2 x3 x4 x5 S = some r → EX (l155_132 n (some m) x1 x2 x3 x4 x5 h) (fun z => (r.1, z)) (QS m h r.2) := by
  intro n
  induction n with
  | zero => intros; rename_i hf; cases hf
  | succ n ih =>
    intro h S x1 x2 x3 x4 x5 r H hf
    have F := FM.rfl' (m := m) (h := h)
    replace hf : ((if (S.1 1) ≤ x5 then (sLd S 9 x1).bind fun v_2 => (sSt S 9 x1 (v_2 + 1)).bind fun S_3 => (sLd S_3 9 x1).bind fun v_5 => gj155_184 x1 x2 v_5 S_3 else (sLd S 0 x5).bind fun v_6 => (sSt S 10 ((10 * x4) + x5) v_6).bind fun S_7 => gl155_132 n x1 x2 x3 x4 (x5 + 1) S_7)) = some r := hf
    unfold l155_132
    refine EX.bd (H.gI 1) ?_
    by_cases c_1 : (S.1 1) ≤ x5
    · replace hf := x_pos c_1 hf
      refine EX.pos c_1 ?_
      refine EX.bd (H.gR 9) ?_
      obtain ⟨v_2, ev_2, hf⟩ := x_bind hf
      refine EX.bd (H.aI (by decide) ev_2) ?_
      obtain ⟨S_3, eS_3, hf⟩ := x_bind hf
      obtain ⟨h_4, eh_4, H, F_⟩ := H.aS (by decide) eS_3
      refine EX.bd eh_4 ?_
      replace F := F.tr F_
      refine EX.bd (H.gR 9) ?_
      obtain ⟨v_5, ev_5, hf⟩ := x_bind hf
      refine EX.bd (H.aI (by decide) ev_5) ?_
      exact EX.uS F (gj155_184_ok H hf)
    · replace hf := x_neg c_1 hf
      refine EX.neg c_1 ?_
      refine EX.bd (H.gR 10) ?_
      refine EX.bd (H.gR 0) ?_
      obtain ⟨v_6, ev_6, hf⟩ := x_bind hf
      refine EX.bd (H.aI (by decide) ev_6) ?_
      obtain ⟨S_7, eS_7, hf⟩ := x_bind hf
      obtain ⟨h_8, eh_8, H, F_⟩ := H.aS (by decide) eS_7
      refine EX.bd eh_8 ?_
      replace F := F.tr F_
      exact EX.uS F (ih H hf)
theorem gj155_91_ok {m : Nat} {h : xH} {S : mS} {x1 : Int32} {x2 : Int32} {x3 : Int32} {s0 : Int32} {r : (Int32 × mS)} (H : RF h m S) (hf : gj155_91 x1 x2 x3 s0 S = some r) : EX (j155_91 (some m) x1 x2 x3 s0 h) (fun z => (r.1, z)) (QS m h r.2) := by
  have F := FM.rfl' (m := m) (h := h)
  unfold gj155_91 at hf
  unfold j155_91
  by_cases c_1 : x2 = 0
  · replace hf := x_pos c_1 hf
    refine EX.pos c_1 ?_
    exact EX.uS F (gj155_184_ok H hf)
  · replace hf := x_neg c_1 hf
    refine EX.neg c_1 ?_
    refine EX.bd (H.gR 9) ?_
    obtain ⟨v_2, ev_2, hf⟩ := x_bind hf
    refine EX.bd (H.aI (by decide) ev_2) ?_
    by_cases c_3 : 4 ≤ v_2
    · replace hf := x_pos c_3 hf
      refine EX.pos c_3 ?_
      exact EX.uS F (gj155_184_ok H hf)
    · replace hf := x_neg c_3 hf
      refine EX.neg c_3 ?_
      refine EX.bd (H.gR 9) ?_
      obtain ⟨v_4, ev_4, hf⟩ := x_bind hf
      refine EX.bd (H.aI (by decide) ev_4) ?_
      refine EX.bd (H.gR 11) ?_
      refine EX.bd (H.gI 1) ?_
      obtain ⟨S_5, eS_5, hf⟩ := x_bind hf
      obtain ⟨h_6, eh_6, H, F_⟩ := H.aS (by decide) eS_5
      refine EX.bd eh_6 ?_
      replace F := F.tr F_
      exact EX.uS F (gl155_132_ok xFuel H hf)
theorem gj155_81_ok {m : Nat} {h : xH} {S : mS} {x1 : Int32} {x2 : Int32} {x3 : Int32} {r : (Int32 × mS)} (H : RF h m S) (hf : gj155_81 x1 x2 x3 S = some r) : EX (j155_81 (some m) x1 x2 x3 h) (fun z => (r.1, z)) (QS m h r.2) := by
  have F := FM.rfl' (m := m) (h := h)
  unfold gj155_81 at hf
  unfold j155_81
  by_cases c_1 : x2 = 0
  · replace hf := x_pos c_1 hf
    refine EX.pos c_1 ?_
    exact EX.uS F (gj155_91_ok H hf)
  · replace hf := x_neg c_1 hf
    refine EX.neg c_1 ?_
    exact EX.uS F (gj155_91_ok H hf)
theorem gj155_74_ok {m : Nat} {k25 : Int32 → Int32 → Int32 → mS → Option (Int32 × mS)} {f25 : Option Nat → Int32 → Int32 → Int32 → xH → Option (Int32 × xH)} (hk25 : ∀ {h : xH} {S : mS} {x1 : Int32} {x2 : Int32} {x3 : Int32} {r : (Int32 × mS)}, RF h m S → k25 x1 x2 x3 S = some r → EX (f25 (some m) x1 x2 x3 h) (fun z => (r.1, z)) (QS m h r.2)) {h : xH} {S : mS} {x1 : Int32} {x2 : Int32} {x3 : Int32} {x4 : Int32} {s0 : Int32} {r : (Int32 × mS)} (H : RF h m S) (hf : gj155_74 k25 x1 x2 x3 x4 s0 S = some r) : EX (j155_74 f25 (some m) x1 x2 x3 x4 s0 h) (fun z => (r.1, z)) (QS m h r.2) := by
  have F := FM.rfl' (m := m) (h := h)
  unfold gj155_74 at hf
  unfold j155_74
  exact EX.uS F (hk25 H hf)
theorem gl155_25_ok {m : Nat} : ∀ (n : Nat) {h : xH} {S : mS} {x1 : Int32} {x2 : Int32} {x3 : Int32} {r : (Int32 × mS)} (H : RF h m S), gl155_25 n x1 x2 x3 S = some r → EX (l155_25 n (some m) x1 x2 x3 h) (fun z => (r.1, z)) (QS m h r.2) := by
  intro n
  induction n with
  | zero => intros; rename_i hf; cases hf
  | succ n ih =>
    intro h S x1 x2 x3 r H hf
    have F := FM.rfl' (m := m) (h := h)
    replace hf : ((if x2 = 0 then gj155_81 x1 x2 x3 S else (sLd S 9 x1).bind fun v_2 => (if v_2 ≤ x3 then gj155_81 x1 x2 x3 S else (sLd S 11 ((4 * x1) + x3)).bind fun v_4 => (g151 10 (10 * ((4 * x1) + x3)) v_4 S).bind fun r_6 => (if r_6.1 = 0 then gj155_74 (gl155_25 n) x1 x2 x3 ((4 * x1) + x3) 1 r_6.2 else gj155_74 (gl155_25 n) x1 x2 x3 ((4 * x1) + x3) 0 r_6.2)))) = some r := hf
    unfold l155_25
    by_cases c_1 : x2 = 0
    · replace hf := x_pos c_1 hf
      refine EX.pos c_1 ?_
      exact EX.uS F (gj155_81_ok H hf)
    · replace hf := x_neg c_1 hf
      refine EX.neg c_1 ?_
      refine EX.bd (H.gR 9) ?_
      obtain ⟨v_2, ev_2, hf⟩ := x_bind hf
      refine EX.bd (H.aI (by decide) ev_2) ?_
      by_cases c_3 : v_2 ≤ x3
      · replace hf := x_pos c_3 hf
        refine EX.pos c_3 ?_
        exact EX.uS F (gj155_81_ok H hf)
      · replace hf := x_neg c_3 hf
        refine EX.neg c_3 ?_
        refine EX.bd (H.gR 10) ?_
        refine EX.bd (H.gR 11) ?_
        obtain ⟨v_4, ev_4, hf⟩ := x_bind hf
        refine EX.bd (H.aI (by decide) ev_4) ?_
        have Hc_ := H.cv
        obtain ⟨r_6, er_6, hf⟩ := x_bind hf
        obtain ⟨h_5, eh_5, H, F_⟩ := g151_ok H (by decide) er_6
        refine EX.bd Hc_ ?_
        refine EX.bd eh_5 ?_
        dsimp only
        replace F := F.tr F_
        by_cases c_7 : r_6.1 = 0
        · replace hf := x_pos c_7 hf
          refine EX.pos c_7 ?_
          exact EX.uS F (gj155_74_ok (k25 := (gl155_25 n)) (f25 := (l155_25 n)) ih H hf)
        · replace hf := x_neg c_7 hf
          refine EX.neg c_7 ?_
          exact EX.uS F (gj155_74_ok (k25 := (gl155_25 n)) (f25 := (l155_25 n)) ih H hf)
theorem gj155_22_ok {m : Nat} {h : xH} {S : mS} {x1 : Int32} {s0 : Int32} {r : (Int32 × mS)} (H : RF h m S) (hf : gj155_22 x1 s0 S = some r) : EX (j155_22 (some m) x1 s0 h) (fun z => (r.1, z)) (QS m h r.2) := by
  have F := FM.rfl' (m := m) (h := h)
  unfold gj155_22 at hf
  unfold j155_22
  exact EX.uS F (gl155_25_ok xFuel H hf)
theorem gj155_21_ok {m : Nat} {h : xH} {S : mS} {x1 : Int32} {r : (Int32 × mS)} (H : RF h m S) (hf : gj155_21 x1 S = some r) : EX (j155_21 (some m) x1 h) (fun z => (r.1, z)) (QS m h r.2) := by
  have F := FM.rfl' (m := m) (h := h)
  unfold gj155_21 at hf
  unfold j155_21
  exact EX.uS F (gj155_22_ok H hf)
theorem g155_ok {h : xH} {m : Nat} {S : mS} {x1 : Int32} {r : (Int32 × mS)} (H : RF h m S) (hf : g155 x1 S = some r) : EX (fn155 (some m) x1 h) (fun z => (r.1, z)) (QS m h r.2) := by
  have F := FM.rfl' (m := m) (h := h)
  unfold g155 at hf
  unfold fn155
  have Hc_ := H.cv
  obtain ⟨r_2, er_2, hf⟩ := x_bind hf
  obtain ⟨h_1, eh_1, H, F_⟩ := g149_ok H er_2
  refine EX.bd Hc_ ?_
  refine EX.bd eh_1 ?_
  dsimp only
  replace F := F.tr F_
  by_cases c_3 : r_2.1 = 0
  · replace hf := x_pos c_3 hf
    refine EX.pos c_3 ?_
    exact EX.uS F (gj155_21_ok H hf)
  · replace hf := x_neg c_3 hf
    refine EX.neg c_3 ?_
    have Hc_ := H.cv
    obtain ⟨r_5, er_5, hf⟩ := x_bind hf
    obtain ⟨h_4, eh_4, H, F_⟩ := g150_ok H er_5
    refine EX.bd Hc_ ?_
    refine EX.bd eh_4 ?_
    dsimp only
    replace F := F.tr F_
    by_cases c_6 : r_5.1 = 0
    · replace hf := x_pos c_6 hf
      refine EX.pos c_6 ?_
      exact EX.uS F (gj155_21_ok H hf)
    · replace hf := x_neg c_6 hf
      refine EX.neg c_6 ?_
      exact EX.uS F (gj155_22_ok H hf)
end
section
theorem gj158_67_ok {m : Nat} {h : xH} {S : mS} {x1 : Int32} {q2 : Nat} {x3 : Int32} {x4 : Int32} {x5 : Int32} {x6 : Int32} {r : (Int32 × mS)} (H : RF h m S) (tq2 : mQ q2) (hf : gj158_67 x1 q2 x3 x4 x5 x6 S = some r) : EX (j158_67 (some m) x1 (some (m + mO q2)) x3 x4 x5 x6 h) (fun z => (r.1, z)) (QS m h r.2) := by
  have F := FM.rfl' (m := m) (h := h)
  unfold gj158_67 at hf
  unfold j158_67
  by_cases c_1 : x5 &&& 1 = x5
  · replace hf := x_pos c_1 hf
    refine EX.pos c_1 ?_
    obtain rfl := Option.some.inj hf
    exact ⟨_, rfl, H, F⟩
  · replace hf := x_neg c_1 hf
    cases hf
theorem gj158_59_ok {m : Nat} {k21 : Int32 → Nat → Int32 → Int32 → Int32 → Int32 → mS → Option (Int32 × mS)} {f21 : Option Nat → Int32 → Option Nat → Int32 → Int32 → Int32 → Int32 → xH → Option (Int32 × xH)} (hk21 : ∀ {h : xH} {S : mS} {x1 : Int32} {q2 : Nat} {x3 : Int32} {x4 : Int32} {x5 : Int32} {x6 : Int32} {r : (Int32 × mS)}, RF h m S → mQ q2 → k21 x1 q2 x3 x4 x5 x6 S = some r → EX (f21 (some m) x1 (some (m + mO q2)) x3 x4 x5 x6 h) (fun z => (r.1, z)) (QS m h r.2)) {h : xH} {S : mS} {x1 : Int32} {q2 : Nat} {x3 : Int32} {x4 : Int32} {x5 : Int32} {x6 : Int32} {s0 : Int32} {r : (Int32 × mS)} (H : RF h m S) (tq2 : mQ q2) (hf : gj158_59 k21 x1 q2 x3 x4 x5 x6 s0 S = some r) : EX (j158_59 f21 (some m) x1 (some (m + mO q2)) x3 x4 x5 x6 s0 h) (fun z => (r.1, z)) (QS m h r.2) := by
  have F := FM.rfl' (m := m) (h := h)
  unfold gj158_59 at hf
  unfold j158_59
  exact EX.uS F (hk21 H tq2 hf)
theorem gl158_21_ok {m : Nat} : ∀ (n : Nat) {h : xH} {S : mS} {x1 : Int32} {q2 : Nat} {x3 : Int32} {x4 : Int32} {x5 : Int32} {x6 : Int32} {r : (Int32 × mS)} (H : RF h m S) (tq2 : mQ q2), gl158_21 n x1 q2 x3 x4 x5 x6 S = some r → EX (l158_21 n (some m) x1 (some (m + mO q2)) x3 x4 x5 x6 h) (fun z => (r.1, z)) (QS m h r.2) := by
  intro n
  induction n with
  | zero => intros; rename_i hf; cases hf
  | succ n ih =>
    intro h S x1 q2 x3 x4 x5 x6 r H tq2 hf
    have F := FM.rfl' (m := m) (h := h)
    replace hf : ((if x4 ≤ x6 then gj158_67 x1 q2 x3 x4 x5 x6 S else (if x5 = 0 then gj158_67 x1 q2 x3 x4 x5 x6 S else (sLd S 7 ((10 * x1) + x6)).bind fun v_3 => (sLd S q2 (x3 + x6)).bind fun v_4 => (if v_3 = v_4 then gj158_59 (gl158_21 n) x1 q2 x3 x4 x5 x6 1 S else gj158_59 (gl158_21 n) x1 q2 x3 x4 x5 x6 0 S)))) = some r := hf
    unfold l158_21
    by_cases c_1 : x4 ≤ x6
    · replace hf := x_pos c_1 hf
      refine EX.pos c_1 ?_
      exact EX.uS F (gj158_67_ok H tq2 hf)
    · replace hf := x_neg c_1 hf
      refine EX.neg c_1 ?_
      by_cases c_2 : x5 = 0
      · replace hf := x_pos c_2 hf
        refine EX.pos c_2 ?_
        exact EX.uS F (gj158_67_ok H tq2 hf)
      · replace hf := x_neg c_2 hf
        refine EX.neg c_2 ?_
        refine EX.bd (H.gR 7) ?_
        obtain ⟨v_3, ev_3, hf⟩ := x_bind hf
        refine EX.bd (H.aI (by decide) ev_3) ?_
        obtain ⟨v_4, ev_4, hf⟩ := x_bind hf
        refine EX.bd (H.aI tq2 ev_4) ?_
        by_cases c_5 : v_3 = v_4
        · replace hf := x_pos c_5 hf
          refine EX.pos c_5 ?_
          exact EX.uS F (gj158_59_ok (k21 := (gl158_21 n)) (f21 := (l158_21 n)) ih H tq2 hf)
        · replace hf := x_neg c_5 hf
          refine EX.neg c_5 ?_
          exact EX.uS F (gj158_59_ok (k21 := (gl158_21 n)) (f21 := (l158_21 n)) ih H tq2 hf)
theorem gj158_16_ok {m : Nat} {h : xH} {S : mS} {x1 : Int32} {q2 : Nat} {x3 : Int32} {x4 : Int32} {s0 : Int32} {r : (Int32 × mS)} (H : RF h m S) (tq2 : mQ q2) (hf : gj158_16 x1 q2 x3 x4 s0 S = some r) : EX (j158_16 (some m) x1 (some (m + mO q2)) x3 x4 s0 h) (fun z => (r.1, z)) (QS m h r.2) := by
  have F := FM.rfl' (m := m) (h := h)
  unfold gj158_16 at hf
  unfold j158_16
  exact EX.uS F (gl158_21_ok xFuel H tq2 hf)
theorem g158_ok {h : xH} {m : Nat} {S : mS} {x1 : Int32} {q2 : Nat} {x3 : Int32} {x4 : Int32} {r : (Int32 × mS)} (H : RF h m S) (tq2 : mQ q2) (hf : g158 x1 q2 x3 x4 S = some r) : EX (fn158 (some m) x1 (some (m + mO q2)) x3 x4 h) (fun z => (r.1, z)) (QS m h r.2) := by
  have F := FM.rfl' (m := m) (h := h)
  unfold g158 at hf
  unfold fn158
  refine EX.bd (H.gR 8) ?_
  obtain ⟨v_1, ev_1, hf⟩ := x_bind hf
  refine EX.bd (H.aI (by decide) ev_1) ?_
  by_cases c_2 : v_1 = x4
  · replace hf := x_pos c_2 hf
    refine EX.pos c_2 ?_
    exact EX.uS F (gj158_16_ok H tq2 hf)
  · replace hf := x_neg c_2 hf
    refine EX.neg c_2 ?_
    exact EX.uS F (gj158_16_ok H tq2 hf)
end
section
theorem gj157_59_ok {m : Nat} {k3 : Int32 → Nat → Int32 → Int32 → Int32 → mS → Option (Int32 × mS)} {f3 : Option Nat → Int32 → Option Nat → Int32 → Int32 → Int32 → xH → Option (Int32 × xH)} (hk3 : ∀ {h : xH} {S : mS} {x1 : Int32} {q2 : Nat} {x3 : Int32} {x4 : Int32} {x5 : Int32} {r : (Int32 × mS)}, RF h m S → mQ q2 → k3 x1 q2 x3 x4 x5 S = some r → EX (f3 (some m) x1 (some (m + mO q2)) x3 x4 x5 h) (fun z => (r.1, z)) (QS m h r.2)) {k12 : Int32 → Nat → Int32 → Int32 → Int32 → Int32 → mS → Option (Int32 × mS)} {f12 : Option Nat → Int32 → Option Nat → Int32 → Int32 → Int32 → Int32 → xH → Option (Int32 × xH)} (hk12 : ∀ {h : xH} {S : mS} {x1 : Int32} {q2 : Nat} {x3 : Int32} {x4 : Int32} {x5 : Int32} {x6 : Int32} {r : (Int32 × mS)}, RF h m S → mQ q2 → k12 x1 q2 x3 x4 x5 x6 S = some r → EX (f12 (some m) x1 (some (m + mO q2)) x3 x4 x5 x6 h) (fun z => (r.1, z)) (QS m h r.2)) {h : xH} {S : mS} {x1 : Int32} {q2 : Nat} {x3 : Int32} {x4 : Int32} {x5 : Int32} {x6 : Int32} {r : (Int32 × mS)} (H : RF h m S) (tq2 : mQ q2) (hf : gj157_59 k3 k12 x1 q2 x3 x4 x5 x6 S = some r) : EX (j157_59 f3 f12 (some m) x1 (some (m + mO q2)) x3 x4 x5 x6 h) (fun z => (r.1, z)) (QS m h r.2) := by
  have F := FM.rfl' (m := m) (h := h)
  unfold gj157_59 at hf
  unfold j157_59
  exact EX.uS F (hk12 H tq2 hf)
theorem gl157_12_ok {m : Nat} {k3 : Int32 → Nat → Int32 → Int32 → Int32 → mS → Option (Int32 × mS)} {f3 : Option Nat → Int32 → Option Nat → Int32 → Int32 → Int32 → xH → Option (Int32 × xH)} (hk3 : ∀ {h : xH} {S : mS} {x1 : Int32} {q2 : Nat} {x3 : Int32} {x4 : Int32} {x5 : Int32} {r : (Int32 × mS)}, RF h m S → mQ q2 → k3 x1 q2 x3 x4 x5 S = some r → EX (f3 (some m) x1 (some (m + mO q2)) x3 x4 x5 h) (fun z => (r.1, z)) (QS m h r.2)) : ∀ (n : Nat) {h : xH} {S : mS} {x1 : Int32} {q2 : Nat} {x3 : Int32} {x4 : Int32} {x5 : Int32} {x6 : Int32} {r : (Int32 × mS)} (H : RF h m S) (tq2 : mQ q2), gl157_12 k3 n x1 q2 x3 x4 x5 x6 S = some r → EX (l157_12 f3 n (some m) x1 (some (m + mO q2)) x3 x4 x5 x6 h) (fun z => (r.1, z)) (QS m h r.2) := by
  intro n
  induction n with
  | zero => intros; rename_i hf; cases hf
  | succ n ih =>
    intro h S x1 q2 x3 x4 x5 x6 r H tq2 hf
    have F := FM.rfl' (m := m) (h := h)
    replace hf : ((if (S.1 2) ≤ x6 then (sLd S 5 x5).bind fun v_2 => k3 x1 q2 x3 x4 v_2 S else (sLd S 3 x6).bind fun v_3 => (if v_3 = 0 then (sLd S 4 x6).bind fun v_5 => (if v_5 = x5 then (g158 x6 q2 x3 x4 S).bind fun r_8 => (if r_8.1 = 0 then gj157_59 k3 (gl157_12 k3 n) x1 q2 x3 x4 x5 x6 r_8.2 else some (x6, r_8.2)) else gj157_59 k3 (gl157_12 k3 n) x1 q2 x3 x4 x5 x6 S) else gj157_59 k3 (gl157_12 k3 n) x1 q2 x3 x4 x5 x6 S))) = some r := hf
    unfold l157_12
    refine EX.bd (H.gI 2) ?_
    by_cases c_1 : (S.1 2) ≤ x6
    · replace hf := x_pos c_1 hf
      refine EX.pos c_1 ?_
      refine EX.bd (H.gR 5) ?_
      obtain ⟨v_2, ev_2, hf⟩ := x_bind hf
      refine EX.bd (H.aI (by decide) ev_2) ?_
      exact EX.uS F (hk3 H tq2 hf)
    · replace hf := x_neg c_1 hf
      refine EX.neg c_1 ?_
      refine EX.bd (H.gR 3) ?_
      obtain ⟨v_3, ev_3, hf⟩ := x_bind hf
      refine EX.bd (H.aZ (by decide) ev_3) ?_
      by_cases c_4 : v_3 = 0
      · replace hf := x_pos c_4 hf
        refine EX.pos c_4 ?_
        refine EX.bd (H.gR 4) ?_
        obtain ⟨v_5, ev_5, hf⟩ := x_bind hf
        refine EX.bd (H.aI (by decide) ev_5) ?_
        by_cases c_6 : v_5 = x5
        · replace hf := x_pos c_6 hf
          refine EX.pos c_6 ?_
          have Hc_ := H.cv
          obtain ⟨r_8, er_8, hf⟩ := x_bind hf
          obtain ⟨h_7, eh_7, H, F_⟩ := g158_ok H tq2 er_8
          refine EX.bd Hc_ ?_
          refine EX.bd eh_7 ?_
          dsimp only
          replace F := F.tr F_
          by_cases c_9 : r_8.1 = 0
          · replace hf := x_pos c_9 hf
            refine EX.pos c_9 ?_
            exact EX.uS F (gj157_59_ok (k3 := k3) (f3 := f3) hk3 (k12 := (gl157_12 k3 n)) (f12 := (l157_12 f3 n)) ih H tq2 hf)
          · replace hf := x_neg c_9 hf
            refine EX.neg c_9 ?_
            obtain rfl := Option.some.inj hf
            exact ⟨_, rfl, H, F⟩
        · replace hf := x_neg c_6 hf
          refine EX.neg c_6 ?_
          exact EX.uS F (gj157_59_ok (k3 := k3) (f3 := f3) hk3 (k12 := (gl157_12 k3 n)) (f12 := (l157_12 f3 n)) ih H tq2 hf)
      · replace hf := x_neg c_4 hf
        refine EX.neg c_4 ?_
        exact EX.uS F (gj157_59_ok (k3 := k3) (f3 := f3) hk3 (k12 := (gl157_12 k3 n)) (f12 := (l157_12 f3 n)) ih H tq2 hf)
theorem gl157_3_ok {m : Nat} : ∀ (n : Nat) {h : xH} {S : mS} {x1 : Int32} {q2 : Nat} {x3 : Int32} {x4 : Int32} {x5 : Int32} {r : (Int32 × mS)} (H : RF h m S) (tq2 : mQ q2), gl157_3 n x1 q2 x3 x4 x5 S = some r → EX (l157_3 n (some m) x1 (some (m + mO q2)) x3 x4 x5 h) (fun z => (r.1, z)) (QS m h r.2) := by
  intro n
  induction n with
  | zero => intros; rename_i hf; cases hf
  | succ n ih =>
    intro h S x1 q2 x3 x4 x5 r H tq2 hf
    have F := FM.rfl' (m := m) (h := h)
    replace hf : ((if x5 = (-1) then some ((-1), S) else gl157_12 (gl157_3 n) xFuel x1 q2 x3 x4 x5 0 S)) = some r := hf
    unfold l157_3
    by_cases c_1 : x5 = (-1)
    · replace hf := x_pos c_1 hf
      refine EX.pos c_1 ?_
      obtain rfl := Option.some.inj hf
      exact ⟨_, rfl, H, F⟩
    · replace hf := x_neg c_1 hf
      refine EX.neg c_1 ?_
      exact EX.uS F (gl157_12_ok (k3 := (gl157_3 n)) (f3 := (l157_3 n)) ih xFuel H tq2 hf)
theorem g157_ok {h : xH} {m : Nat} {S : mS} {x1 : Int32} {q2 : Nat} {x3 : Int32} {x4 : Int32} {r : (Int32 × mS)} (H : RF h m S) (tq2 : mQ q2) (hf : g157 x1 q2 x3 x4 S = some r) : EX (fn157 (some m) x1 (some (m + mO q2)) x3 x4 h) (fun z => (r.1, z)) (QS m h r.2) := by
  have F := FM.rfl' (m := m) (h := h)
  unfold g157 at hf
  unfold fn157
  exact EX.uS F (gl157_3_ok xFuel H tq2 hf)
end
