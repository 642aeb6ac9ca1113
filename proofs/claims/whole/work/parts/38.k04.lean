section
theorem gj207_253_ok {m : Nat} {k149 : Int32 → Int32 → Int32 → Int32 → mS → Option mS} {f149 : Option Nat → Int32 → Int32 → Int32 → Int32 → xH → Option xH} (hk149 : ∀ {h : xH} {S : mS} {x1 : Int32} {x2 : Int32} {x3 : Int32} {x4 : Int32} {r : mS}, RF h m S → k149 x1 x2 x3 x4 S = some r → EX (f149 (some m) x1 x2 x3 x4 h) (fun z => z) (QS m h r)) {h : xH} {S : mS} {x1 : Int32} {x2 : Int32} {x3 : Int32} {x4 : Int32} {x5 : Int32} {r : mS} (H : RF h m S) (hf : gj207_253 k149 x1 x2 x3 x4 x5 S = some r) : EX (j207_253 f149 (some m) x1 x2 x3 x4 x5 h) (fun z => z) (QS m h r) := by
  have F := FM.rfl' (m := m) (h := h)
  unfold gj207_253 at hf
  unfold j207_253
  exact EX.uS F (hk149 H hf)
theorem gj207_190_ok {m : Nat} {k149 : Int32 → Int32 → Int32 → Int32 → mS → Option mS} {f149 : Option Nat → Int32 → Int32 → Int32 → Int32 → xH → Option xH} (hk149 : ∀ {h : xH} {S : mS} {x1 : Int32} {x2 : Int32} {x3 : Int32} {x4 : Int32} {r : mS}, RF h m S → k149 x1 x2 x3 x4 S = some r → EX (f149 (some m) x1 x2 x3 x4 h) (fun z => z) (QS m h r)) {h : xH} {S : mS} {x1 : Int32} {x2 : Int32} {x3 : Int32} {x4 : Int32} {x5 : Int32} {r : mS} (H : RF h m S) (hf : gj207_190 k149 x1 x2 x3 x4 x5 S = some r) : EX (j207_190 f149 (some m) x1 x2 x3 x4 x5 h) (fun z => z) (QS m h r) := by
  have F := FM.rfl' (m := m) (h := h)
  unfold gj207_190 at hf
  unfold j207_190
  refine EX.bd (H.gR 26) ?_
  obtain ⟨v_1, ev_1, hf⟩ := x_bind hf
  refine EX.bd (H.aI (by decide) ev_1) ?_
  refine EX.bd (H.gR 27) ?_
  obtain ⟨v_2, ev_2, hf⟩ := x_bind hf
  refine EX.bd (H.aI (by decide) ev_2) ?_
  have Hc_ := H.cv
  obtain ⟨S_4, eS_4, hf⟩ := x_bind hf
  obtain ⟨h_3, eh_3, H, F_⟩ := g204_ok H eS_4
  refine EX.bd Hc_ ?_
  refine EX.bd eh_3 ?_
  replace F := F.tr F_
  refine EX.bd (H.gR 24) ?_
  obtain ⟨v_5, ev_5, hf⟩ := x_bind hf
  refine EX.bd (H.aI (by decide) ev_5) ?_
  by_cases c_6 : v_5 = 2
  · replace hf := x_pos c_6 hf
    refine EX.pos c_6 ?_
    refine EX.bd (H.gR 12) ?_
    refine EX.bd (H.gR 29) ?_
    obtain ⟨v_7, ev_7, hf⟩ := x_bind hf
    refine EX.bd (H.aI (by decide) ev_7) ?_
    refine EX.bd (H.gR 30) ?_
    obtain ⟨v_8, ev_8, hf⟩ := x_bind hf
    refine EX.bd (H.aI (by decide) ev_8) ?_
    have Hc_ := H.cv
    obtain ⟨r_10, er_10, hf⟩ := x_bind hf
    obtain ⟨h_9, eh_9, H, F_⟩ := g164_ok H (by decide) er_10
    refine EX.bd Hc_ ?_
    refine EX.bd eh_9 ?_
    dsimp only
    replace F := F.tr F_
    have Hc_ := H.cv
    obtain ⟨S_12, eS_12, hf⟩ := x_bind hf
    obtain ⟨h_11, eh_11, H, F_⟩ := g206_ok H eS_12
    refine EX.bd Hc_ ?_
    refine EX.bd eh_11 ?_
    replace F := F.tr F_
    exact EX.uS F (gj207_253_ok (k149 := k149) (f149 := f149) hk149 H hf)
  · replace hf := x_neg c_6 hf
    refine EX.neg c_6 ?_
    exact EX.uS F (gj207_253_ok (k149 := k149) (f149 := f149) hk149 H hf)
theorem gl207_149_ok {m : Nat} : ∀ (n : Nat) {h : xH} {S : mS} {x1 : Int32} {x2 : Int32} {x3 : Int32} {x4 : Int32} {r : mS} (H : RF h m S), gl207_149 n x1 x2 x3 x4 S = some r → EX (l207_149 n (some m) x1 x2 x3 x4 h) (fun z => z) (QS m h r) := by
  intro n
  induction n with
  | zero => intros; rename_i hf; cases hf
  | succ n ih =>
    intro h S x1 x2 x3 x4 r H hf
    have F := FM.rfl' (m := m) (h := h)
    replace hf : ((sLd S 19 x2).bind fun v_1 => (if v_1 ≤ x4 then some S else (sLd S 18 x2).bind fun v_3 => (sLd S 28 (((120 * x1) + v_3) + x4)).bind fun v_4 => (if v_4 = 0 then (g202  S).bind fun S_7 => gj207_190 (gl207_149 n) x1 x2 x3 x4 (((120 * x1) + v_3) + x4) S_7 else gj207_190 (gl207_149 n) x1 x2 x3 x4 (((120 * x1) + v_3) + x4) S))) = some r := hf
    unfold l207_149
    refine EX.bd (H.gR 19) ?_
    obtain ⟨v_1, ev_1, hf⟩ := x_bind hf
    refine EX.bd (H.aI (by decide) ev_1) ?_
    by_cases c_2 : v_1 ≤ x4
    · replace hf := x_pos c_2 hf
      refine EX.pos c_2 ?_
      obtain rfl := Option.some.inj hf
      exact ⟨_, rfl, H, F⟩
    · replace hf := x_neg c_2 hf
      refine EX.neg c_2 ?_
      refine EX.bd (H.gR 18) ?_
      obtain ⟨v_3, ev_3, hf⟩ := x_bind hf
      refine EX.bd (H.aI (by decide) ev_3) ?_
      refine EX.bd (H.gR 28) ?_
      obtain ⟨v_4, ev_4, hf⟩ := x_bind hf
      refine EX.bd (H.aZ (by decide) ev_4) ?_
      by_cases c_5 : v_4 = 0
      · replace hf := x_pos c_5 hf
        refine EX.pos c_5 ?_
        have Hc_ := H.cv
        obtain ⟨S_7, eS_7, hf⟩ := x_bind hf
        obtain ⟨h_6, eh_6, H, F_⟩ := g202_ok H eS_7
        refine EX.bd Hc_ ?_
        refine EX.bd eh_6 ?_
        replace F := F.tr F_
        exact EX.uS F (gj207_190_ok (k149 := (gl207_149 n)) (f149 := (l207_149 n)) ih H hf)
      · replace hf := x_neg c_5 hf
        refine EX.neg c_5 ?_
        exact EX.uS F (gj207_190_ok (k149 := (gl207_149 n)) (f149 := (l207_149 n)) ih H hf)
theorem gj207_146_ok {m : Nat} {h : xH} {S : mS} {x1 : Int32} {x2 : Int32} {x3 : Int32} {r : mS} (H : RF h m S) (hf : gj207_146 x1 x2 x3 S = some r) : EX (j207_146 (some m) x1 x2 x3 h) (fun z => z) (QS m h r) := by
  have F := FM.rfl' (m := m) (h := h)
  unfold gj207_146 at hf
  unfold j207_146
  exact EX.uS F (gl207_149_ok xFuel H hf)
theorem gj207_115_ok {m : Nat} {h : xH} {S : mS} {x1 : Int32} {x2 : Int32} {x3 : Int32} {r : mS} (H : RF h m S) (hf : gj207_115 x1 x2 x3 S = some r) : EX (j207_115 (some m) x1 x2 x3 h) (fun z => z) (QS m h r) := by
  have F := FM.rfl' (m := m) (h := h)
  unfold gj207_115 at hf
  unfold j207_115
  refine EX.bd (H.gR 12) ?_
  refine EX.bd (H.gR 21) ?_
  obtain ⟨v_1, ev_1, hf⟩ := x_bind hf
  refine EX.bd (H.aI (by decide) ev_1) ?_
  refine EX.bd (H.gR 22) ?_
  obtain ⟨v_2, ev_2, hf⟩ := x_bind hf
  refine EX.bd (H.aI (by decide) ev_2) ?_
  have Hc_ := H.cv
  obtain ⟨r_4, er_4, hf⟩ := x_bind hf
  obtain ⟨h_3, eh_3, H, F_⟩ := g164_ok H (by decide) er_4
  refine EX.bd Hc_ ?_
  refine EX.bd eh_3 ?_
  dsimp only
  replace F := F.tr F_
  have Hc_ := H.cv
  obtain ⟨S_6, eS_6, hf⟩ := x_bind hf
  obtain ⟨h_5, eh_5, H, F_⟩ := g206_ok H eS_6
  refine EX.bd Hc_ ?_
  refine EX.bd eh_5 ?_
  replace F := F.tr F_
  exact EX.uS F (gj207_146_ok H hf)
theorem gj207_105_ok {m : Nat} {h : xH} {S : mS} {x1 : Int32} {x2 : Int32} {x3 : Int32} {r : mS} (H : RF h m S) (hf : gj207_105 x1 x2 x3 S = some r) : EX (j207_105 (some m) x1 x2 x3 h) (fun z => z) (QS m h r) := by
  have F := FM.rfl' (m := m) (h := h)
  unfold gj207_105 at hf
  unfold j207_105
  by_cases c_1 : x3 = 4
  · replace hf := x_pos c_1 hf
    refine EX.pos c_1 ?_
    exact EX.uS F (gj207_115_ok H hf)
  · replace hf := x_neg c_1 hf
    refine EX.neg c_1 ?_
    by_cases c_2 : x3 = 5
    · replace hf := x_pos c_2 hf
      refine EX.pos c_2 ?_
      exact EX.uS F (gj207_115_ok H hf)
    · replace hf := x_neg c_2 hf
      refine EX.neg c_2 ?_
      exact EX.uS F (gj207_146_ok H hf)
theorem gj207_74_ok {m : Nat} {h : xH} {S : mS} {x1 : Int32} {x2 : Int32} {x3 : Int32} {s1 : Int64} {r : mS} (H : RF h m S) (hf : gj207_74 x1 x2 x3 s1 S = some r) : EX (j207_74 (some m) x1 x2 x3 (some m) s1 h) (fun z => z) (QS m h r) := by
  have F := FM.rfl' (m := m) (h := h)
  unfold gj207_74 at hf
  unfold j207_74
  have Hc_ := H.cv
  obtain ⟨S_2, eS_2, hf⟩ := x_bind hf
  obtain ⟨h_1, eh_1, H, F_⟩ := g205_ok H eS_2
  refine EX.bd Hc_ ?_
  refine EX.bd eh_1 ?_
  replace F := F.tr F_
  by_cases c_3 : x3 = 3
  · replace hf := x_pos c_3 hf
    refine EX.pos c_3 ?_
    exact EX.uS F (gj207_105_ok H hf)
  · replace hf := x_neg c_3 hf
    refine EX.neg c_3 ?_
    have Hc_ := H.cv
    obtain ⟨S_5, eS_5, hf⟩ := x_bind hf
    obtain ⟨h_4, eh_4, H, F_⟩ := g203_ok H eS_5
    refine EX.bd Hc_ ?_
    refine EX.bd eh_4 ?_
    replace F := F.tr F_
    refine EX.bd (H.gR 21) ?_
    obtain ⟨v_6, ev_6, hf⟩ := x_bind hf
    refine EX.bd (H.aI (by decide) ev_6) ?_
    refine EX.bd (H.gR 22) ?_
    obtain ⟨v_7, ev_7, hf⟩ := x_bind hf
    refine EX.bd (H.aI (by decide) ev_7) ?_
    have Hc_ := H.cv
    obtain ⟨S_9, eS_9, hf⟩ := x_bind hf
    obtain ⟨h_8, eh_8, H, F_⟩ := g204_ok H eS_9
    refine EX.bd Hc_ ?_
    refine EX.bd eh_8 ?_
    replace F := F.tr F_
    exact EX.uS F (gj207_105_ok H hf)
theorem g207_ok {h : xH} {m : Nat} {S : mS} {x1 : Int32} {x2 : Int32} {r : mS} (H : RF h m S) (hf : g207 x1 x2 S = some r) : EX (fn207 (some m) x1 x2 h) (fun z => z) (QS m h r) := by
  have F := FM.rfl' (m := m) (h := h)
  unfold g207 at hf
  unfold fn207
  obtain ⟨S_1, eS_1, hf⟩ := x_bind hf
  obtain ⟨h_2, eh_2, H, F_⟩ := H.pF 61 (xfit_int _) eS_1
  refine EX.bd eh_2 ?_
  replace F := F.tr F_
  obtain ⟨S_3, eS_3, hf⟩ := x_bind hf
  obtain ⟨h_4, eh_4, H, F_⟩ := H.pF 63 (xfit_int _) eS_3
  refine EX.bd eh_4 ?_
  replace F := F.tr F_
  refine EX.bd (H.gR 16) ?_
  obtain ⟨v_5, ev_5, hf⟩ := x_bind hf
  refine EX.bd (H.aI (by decide) ev_5) ?_
  by_cases c_6 : v_5 ≤ 1
  · replace hf := x_pos c_6 hf
    refine EX.pos c_6 ?_
    exact EX.uS F (gj207_146_ok H hf)
  · replace hf := x_neg c_6 hf
    refine EX.neg c_6 ?_
    have Hc_ := H.cv
    obtain ⟨S_8, eS_8, hf⟩ := x_bind hf
    obtain ⟨h_7, eh_7, H, F_⟩ := g202_ok H eS_8
    refine EX.bd Hc_ ?_
    refine EX.bd eh_7 ?_
    replace F := F.tr F_
    by_cases c_9 : v_5 = 2
    · replace hf := x_pos c_9 hf
      refine EX.pos c_9 ?_
      exact EX.uS F (gj207_74_ok H hf)
    · replace hf := x_neg c_9 hf
      refine EX.neg c_9 ?_
      by_cases c_10 : v_5 = 3
      · replace hf := x_pos c_10 hf
        refine EX.pos c_10 ?_
        exact EX.uS F (gj207_74_ok H hf)
      · replace hf := x_neg c_10 hf
        refine EX.neg c_10 ?_
        by_cases c_11 : v_5 = 4
        · replace hf := x_pos c_11 hf
          refine EX.pos c_11 ?_
          exact EX.uS F (gj207_74_ok H hf)
        · replace hf := x_neg c_11 hf
          refine EX.neg c_11 ?_
          by_cases c_12 : v_5 = 5
          · replace hf := x_pos c_12 hf
            refine EX.pos c_12 ?_
            exact EX.uS F (gj207_74_ok H hf)
          · replace hf := x_neg c_12 hf
            refine EX.neg c_12 ?_
            exact EX.uS F (gj207_74_ok H hf)
end
section
theorem gj208_25_ok {m : Nat} {h : xH} {S : mS} {x1 : Int32} {s0 : Int32} {r : (Int32 × mS)} (H : RF h m S) (hf : gj208_25 x1 s0 S = some r) : EX (j208_25 (some m) x1 s0 h) (fun z => (r.1, z)) (QS m h r.2) := by
  have F := FM.rfl' (m := m) (h := h)
  unfold gj208_25 at hf
  unfold j208_25
  refine EX.bd (H.gR 62) ?_
  obtain ⟨v_1, ev_1, hf⟩ := x_bind hf
  refine EX.bd (H.aI (by decide) ev_1) ?_
  obtain rfl := Option.some.inj hf
  exact ⟨_, rfl, H, F⟩
theorem g208_ok {h : xH} {m : Nat} {S : mS} {x1 : Int32} {r : (Int32 × mS)} (H : RF h m S) (hf : g208 x1 S = some r) : EX (fn208 (some m) x1 h) (fun z => (r.1, z)) (QS m h r.2) := by
  have F := FM.rfl' (m := m) (h := h)
  unfold g208 at hf
  unfold fn208
  refine EX.bd (H.gI 63) ?_
  by_cases c_1 : (S.1 63) ≤ (x1 + 1)
  · replace hf := x_pos c_1 hf
    refine EX.pos c_1 ?_
    refine EX.bd (H.gI 61) ?_
    exact EX.uS F (gj208_25_ok H hf)
  · replace hf := x_neg c_1 hf
    refine EX.neg c_1 ?_
    refine EX.bd (H.gR 62) ?_
    obtain ⟨v_2, ev_2, hf⟩ := x_bind hf
    refine EX.bd (H.aI (by decide) ev_2) ?_
    exact EX.uS F (gj208_25_ok H hf)
end
section
theorem gj209_11_ok {m : Nat} {h : xH} {S : mS} {x1 : Int32} {s0 : Int32} {r : (Int32 × mS)} (H : RF h m S) (hf : gj209_11 x1 s0 S = some r) : EX (j209_11 (some m) x1 s0 h) (fun z => (r.1, z)) (QS m h r.2) := by
  have F := FM.rfl' (m := m) (h := h)
  unfold gj209_11 at hf
  unfold j209_11
  obtain rfl := Option.some.inj hf
  exact ⟨_, rfl, H, F⟩
theorem g209_ok {h : xH} {m : Nat} {S : mS} {x1 : Int32} {r : (Int32 × mS)} (H : RF h m S) (hf : g209 x1 S = some r) : EX (fn209 (some m) x1 h) (fun z => (r.1, z)) (QS m h r.2) := by
  have F := FM.rfl' (m := m) (h := h)
  unfold g209 at hf
  unfold fn209
  by_cases c_1 : 0 ≤ x1
  · replace hf := x_pos c_1 hf
    refine EX.pos c_1 ?_
    exact EX.uS F (gj209_11_ok H hf)
  · replace hf := x_neg c_1 hf
    refine EX.neg c_1 ?_
    exact EX.uS F (gj209_11_ok H hf)
end
section
theorem gj210_204_ok {m : Nat} {k18 : Int32 → Int32 → Int32 → Int32 → Int32 → mS → Option mS} {f18 : Option Nat → Int32 → Int32 → Int32 → Int32 → Int32 → xH → Option xH} (hk18 : ∀ {h : xH} {S : mS} {x1 : Int32} {x2 : Int32} {x3 : Int32} {x4 : Int32} {x5 : Int32} {r : mS}, RF h m S → k18 x1 x2 x3 x4 x5 S = some r → EX (f18 (some m) x1 x2 x3 x4 x5 h) (fun z => z) (QS m h r)) {h : xH} {S : mS} {x1 : Int32} {x2 : Int32} {x3 : Int32} {x4 : Int32} {x5 : Int32} {x6 : Int32} {x7 : Int32} {x8 : Int32} {r : mS} (H : RF h m S) (hf : gj210_204 k18 x1 x2 x3 x4 x5 x6 x7 x8 S = some r) : EX (j210_204 f18 (some m) x1 x2 x3 x4 x5 x6 x7 x8 h) (fun z => z) (QS m h r) := by
  have F := FM.rfl' (m := m) (h := h)
  unfold gj210_204 at hf
  unfold j210_204
  exact EX.uS F (hk18 H hf)
theorem gj210_198_ok {m : Nat} {k18 : Int32 → Int32 → Int32 → Int32 → Int32 → mS → Option mS} {f18 : Option Nat → Int32 → Int32 → Int32 → Int32 → Int32 → xH → Option xH} (hk18 : ∀ {h : xH} {S : mS} {x1 : Int32} {x2 : Int32} {x3 : Int32} {x4 : Int32} {x5 : Int32} {r : mS}, RF h m S → k18 x1 x2 x3 x4 x5 S = some r → EX (f18 (some m) x1 x2 x3 x4 x5 h) (fun z => z) (QS m h r)) {k50 : Int32 → Int32 → Int32 → Int32 → Int32 → Int32 → Int32 → Int32 → mS → Option mS} {f50 : Option Nat → Int32 → Int32 → Int32 → Int32 → Int32 → Int32 → Int32 → Int32 → xH → Option xH} (hk50 : ∀ {h : xH} {S : mS} {x1 : Int32} {x2 : Int32} {x3 : Int32} {x4 : Int32} {x5 : Int32} {x6 : Int32} {x7 : Int32} {x8 : Int32} {r : mS}, RF h m S → k50 x1 x2 x3 x4 x5 x6 x7 x8 S = some r → EX (f50 (some m) x1 x2 x3 x4 x5 x6 x7 x8 h) (fun z => z) (QS m h r)) {h : xH} {S : mS} {x1 : Int32} {x2 : Int32} {x3 : Int32} {x4 : Int32} {x5 : Int32} {x6 : Int32} {x7 : Int32} {x8 : Int32} {r : mS} (H : RF h m S) (hf : gj210_198 k18 k50 x1 x2 x3 x4 x5 x6 x7 x8 S = some r) : EX (j210_198 f18 f50 (some m) x1 x2 x3 x4 x5 x6 x7 x8 h) (fun z => z) (QS m h r) := by
  have F := FM.rfl' (m := m) (h := h)
  unfold gj210_198 at hf
  unfold j210_198
  exact EX.uS F (hk50 H hf)
theorem gj210_175_ok {m : Nat} {k18 : Int32 → Int32 → Int32 → Int32 → Int32 → mS → Option mS} {f18 : Option Nat → Int32 → Int32 → Int32 → Int32 → Int32 → xH → Option xH} (hk18 : ∀ {h : xH} {S : mS} {x1 : Int32} {x2 : Int32} {x3 : Int32} {x4 : Int32} {x5 : Int32} {r : mS}, RF h m S → k18 x1 x2 x3 x4 x5 S = some r → EX (f18 (some m) x1 x2 x3 x4 x5 h) (fun z => z) (QS m h r)) {k50 : Int32 → Int32 → Int32 → Int32 → Int32 → Int32 → Int32 → Int32 → mS → Option mS} {f50 : Option Nat → Int32 → Int32 → Int32 → Int32 → Int32 → Int32 → Int32 → Int32 → xH → Option xH} (hk50 : ∀ {h : xH} {S : mS} {x1 : Int32} {x2 : Int32} {x3 : Int32} {x4 : Int32} {x5 : Int32} {x6 : Int32} {x7 : Int32} {x8 : Int32} {r : mS}, RF h m S → k50 x1 x2 x3 x4 x5 x6 x7 x8 S = some r → EX (f50 (some m) x1 x2 x3 x4 x5 x6 x7 x8 h) (fun z => z) (QS m h r)) {h : xH} {S : mS} {x1 : Int32} {x2 : Int32} {x3 : Int32} {x4 : Int32} {x5 : Int32} {x6 : Int32} {x7 : Int32} {x8 : Int32} {x9 : Int32} {r : mS} (H : RF h m S) (hf : gj210_175 k18 k50 x1 x2 x3 x4 x5 x6 x7 x8 x9 S = some r) : EX (j210_175 f18 f50 (some m) x1 x2 x3 x4 x5 x6 x7 x8 x9 h) (fun z => z) (QS m h r) := by
  have F := FM.rfl' (m := m) (h := h)
  unfold gj210_175 at hf
  unfold j210_175
  refine EX.bd (H.gR 64) ?_
  obtain ⟨S_1, eS_1, hf⟩ := x_bind hf
  obtain ⟨h_2, eh_2, H, F_⟩ := H.aS (by decide) eS_1
  refine EX.bd eh_2 ?_
  replace F := F.tr F_
  refine EX.bd (H.gR 65) ?_
  obtain ⟨S_3, eS_3, hf⟩ := x_bind hf
  obtain ⟨h_4, eh_4, H, F_⟩ := H.aS (by decide) eS_3
  refine EX.bd eh_4 ?_
  replace F := F.tr F_
  exact EX.uS F (gj210_198_ok (k18 := k18) (f18 := f18) hk18 (k50 := k50) (f50 := f50) hk50 H hf)
theorem gj210_146_ok {m : Nat} {k18 : Int32 → Int32 → Int32 → Int32 → Int32 → mS → Option mS} {f18 : Option Nat → Int32 → Int32 → Int32 → Int32 → Int32 → xH → Option xH} (hk18 : ∀ {h : xH} {S : mS} {x1 : Int32} {x2 : Int32} {x3 : Int32} {x4 : Int32} {x5 : Int32} {r : mS}, RF h m S → k18 x1 x2 x3 x4 x5 S = some r → EX (f18 (some m) x1 x2 x3 x4 x5 h) (fun z => z) (QS m h r)) {k50 : Int32 → Int32 → Int32 → Int32 → Int32 → Int32 → Int32 → Int32 → mS → Option mS} {f50 : Option Nat → Int32 → Int32 → Int32 → Int32 → Int32 → Int32 → Int32 → Int32 → xH → Option xH} (hk50 : ∀ {h : xH} {S : mS} {x1 : Int32} {x2 : Int32} {x3 : Int32} {x4 : Int32} {x5 : Int32} {x6 : Int32} {x7 : Int32} {x8 : Int32} {r : mS}, RF h m S → k50 x1 x2 x3 x4 x5 x6 x7 x8 S = some r → EX (f50 (some m) x1 x2 x3 x4 x5 x6 x7 x8 h) (fun z => z) (QS m h r)) {h : xH} {S : mS} {x1 : Int32} {x2 : Int32} {x3 : Int32} {x4 : Int32} {x5 : Int32} {x6 : Int32} {x7 : Int32} {x8 : Int32} {s0 : Int32} {r : mS} (H : RF h m S) (hf : gj210_146 k18 k50 x1 x2 x3 x4 x5 x6 x7 x8 s0 S = some r) : EX (j210_146 f18 f50 (some m) x1 x2 x3 x4 x5 x6 x7 x8 s0 h) (fun z => z) (QS m h r) := by
  have F := FM.rfl' (m := m) (h := h)
  unfold gj210_146 at hf
  unfold j210_146
  by_cases c_1 : x4 = 0
  · replace hf := x_pos c_1 hf
    refine EX.pos c_1 ?_
    exact EX.uS F (gj210_175_ok (k18 := k18) (f18 := f18) hk18 (k50 := k50) (f50 := f50) hk50 H hf)
  · replace hf := x_neg c_1 hf
    refine EX.neg c_1 ?_
    refine EX.bd (H.gR 64) ?_
    obtain ⟨v_2, ev_2, hf⟩ := x_bind hf
    refine EX.bd (H.aI (by decide) ev_2) ?_
    by_cases c_3 : v_2 = 0
    · replace hf := x_pos c_3 hf
      refine EX.pos c_3 ?_
      exact EX.uS F (gj210_175_ok (k18 := k18) (f18 := f18) hk18 (k50 := k50) (f50 := f50) hk50 H hf)
    · replace hf := x_neg c_3 hf
      refine EX.neg c_3 ?_
      refine EX.bd (H.gR 65) ?_
      obtain ⟨v_4, ev_4, hf⟩ := x_bind hf
      refine EX.bd (H.aI (by decide) ev_4) ?_
      by_cases c_5 : v_4 < s0
      · replace hf := x_pos c_5 hf
        refine EX.pos c_5 ?_
        exact EX.uS F (gj210_198_ok (k18 := k18) (f18 := f18) hk18 (k50 := k50) (f50 := f50) hk50 H hf)
      · replace hf := x_neg c_5 hf
        refine EX.neg c_5 ?_
        exact EX.uS F (gj210_175_ok (k18 := k18) (f18 := f18) hk18 (k50 := k50) (f50 := f50) hk50 H hf)
theorem gj210_106_ok {m : Nat} {k18 : Int32 → Int32 → Int32 → Int32 → Int32 → mS → Option mS} {f18 : Option Nat → Int32 → Int32 → Int32 → Int32 → Int32 → xH → Option xH} (hk18 : ∀ {h : xH} {S : mS} {x1 : Int32} {x2 : Int32} {x3 : Int32} {x4 : Int32} {x5 : Int32} {r : mS}, RF h m S → k18 x1 x2 x3 x4 x5 S = some r → EX (f18 (some m) x1 x2 x3 x4 x5 h) (fun z => z) (QS m h r)) {k50 : Int32 → Int32 → Int32 → Int32 → Int32 → Int32 → Int32 → Int32 → mS → Option mS} {f50 : Option Nat → Int32 → Int32 → Int32 → Int32 → Int32 → Int32 → Int32 → Int32 → xH → Option xH} (hk50 : ∀ {h : xH} {S : mS} {x1 : Int32} {x2 : Int32} {x3 : Int32} {x4 : Int32} {x5 : Int32} {x6 : Int32} {x7 : Int32} {x8 : Int32} {r : mS}, RF h m S → k50 x1 x2 x3 x4 x5 x6 x7 x8 S = some r → EX (f50 (some m) x1 x2 x3 x4 x5 x6 x7 x8 h) (fun z => z) (QS m h r)) {h : xH} {S : mS} {x1 : Int32} {x2 : Int32} {x3 : Int32} {x4 : Int32} {x5 : Int32} {x6 : Int32} {x7 : Int32} {x8 : Int32} {s0 : Int32} {r : mS} (H : RF h m S) (hf : gj210_106 k18 k50 x1 x2 x3 x4 x5 x6 x7 x8 s0 S = some r) : EX (j210_106 f18 f50 (some m) x1 x2 x3 x4 x5 x6 x7 x8 s0 h) (fun z => z) (QS m h r) := by
  have F := FM.rfl' (m := m) (h := h)
  unfold gj210_106 at hf
  unfold j210_106
  by_cases c_1 : s0 = 0
  · replace hf := x_pos c_1 hf
    refine EX.pos c_1 ?_
    exact EX.uS F (gj210_198_ok (k18 := k18) (f18 := f18) hk18 (k50 := k50) (f50 := f50) hk50 H hf)
  · replace hf := x_neg c_1 hf
    refine EX.neg c_1 ?_
    refine EX.bd (H.gI 63) ?_
    by_cases c_2 : x8 = ((S.1 63) - 1)
    · replace hf := x_pos c_2 hf
      refine EX.pos c_2 ?_
      exact EX.uS F (gj210_146_ok (k18 := k18) (f18 := f18) hk18 (k50 := k50) (f50 := f50) hk50 H hf)
    · replace hf := x_neg c_2 hf
      refine EX.neg c_2 ?_
      have Hc_ := H.cv
      obtain ⟨r_4, er_4, hf⟩ := x_bind hf
      obtain ⟨h_3, eh_3, H, F_⟩ := g209_ok H er_4
      refine EX.bd Hc_ ?_
      refine EX.bd eh_3 ?_
      dsimp only
      replace F := F.tr F_
      refine EX.bd (H.gR 65) ?_
      obtain ⟨v_5, ev_5, hf⟩ := x_bind hf
      refine EX.bd (H.aI (by decide) ev_5) ?_
      exact EX.uS F (gj210_146_ok (k18 := k18) (f18 := f18) hk18 (k50 := k50) (f50 := f50) hk50 H hf)
theorem gj210_101_ok {m : Nat} {k18 : Int32 → Int32 → Int32 → Int32 → Int32 → mS → Option mS} {f18 : Option Nat → Int32 → Int32 → Int32 → Int32 → Int32 → xH → Option xH} (hk18 : ∀ {h : xH} {S : mS} {x1 : Int32} {x2 : Int32} {x3 : Int32} {x4 : Int32} {x5 : Int32} {r : mS}, RF h m S → k18 x1 x2 x3 x4 x5 S = some r → EX (f18 (some m) x1 x2 x3 x4 x5 h) (fun z => z) (QS m h r)) {k50 : Int32 → Int32 → Int32 → Int32 → Int32 → Int32 → Int32 → Int32 → mS → Option mS} {f50 : Option Nat → Int32 → Int32 → Int32 → Int32 → Int32 → Int32 → Int32 → Int32 → xH → Option xH} (hk50 : ∀ {h : xH} {S : mS} {x1 : Int32} {x2 : Int32} {x3 : Int32} {x4 : Int32} {x5 : Int32} {x6 : Int32} {x7 : Int32} {x8 : Int32} {r : mS}, RF h m S → k50 x1 x2 x3 x4 x5 x6 x7 x8 S = some r → EX (f50 (some m) x1 x2 x3 x4 x5 x6 x7 x8 h) (fun z => z) (QS m h r)) {h : xH} {S : mS} {x1 : Int32} {x2 : Int32} {x3 : Int32} {x4 : Int32} {x5 : Int32} {x6 : Int32} {x7 : Int32} {x8 : Int32} {r : mS} (H : RF h m S) (hf : gj210_101 k18 k50 x1 x2 x3 x4 x5 x6 x7 x8 S = some r) : EX (j210_101 f18 f50 (some m) x1 x2 x3 x4 x5 x6 x7 x8 h) (fun z => z) (QS m h r) := by
  have F := FM.rfl' (m := m) (h := h)
  unfold gj210_101 at hf
  unfold j210_101
  exact EX.uS F (gj210_106_ok (k18 := k18) (f18 := f18) hk18 (k50 := k50) (f50 := f50) hk50 H hf)
theorem gj210_84_ok {m : Nat} {k18 : Int32 → Int32 → Int32 → Int32 → Int32 → mS → Option mS} {f18 : Option Nat → Int32 → Int32 → Int32 → Int32 → Int32 → xH → Option xH} (hk18 : ∀ {h : xH} {S : mS} {x1 : Int32} {x2 : Int32} {x3 : Int32} {x4 : Int32} {x5 : Int32} {r : mS}, RF h m S → k18 x1 x2 x3 x4 x5 S = some r → EX (f18 (some m) x1 x2 x3 x4 x5 h) (fun z => z) (QS m h r)) {k50 : Int32 → Int32 → Int32 → Int32 → Int32 → Int32 → Int32 → Int32 → mS → Option mS} {f50 : Option Nat → Int32 → Int32 → Int32 → Int32 → Int32 → Int32 → Int32 → Int32 → xH → Option xH} (hk50 : ∀ {h : xH} {S : mS} {x1 : Int32} {x2 : Int32} {x3 : Int32} {x4 : Int32} {x5 : Int32} {x6 : Int32} {x7 : Int32} {x8 : Int32} {r : mS}, RF h m S → k50 x1 x2 x3 x4 x5 x6 x7 x8 S = some r → EX (f50 (some m) x1 x2 x3 x4 x5 x6 x7 x8 h) (fun z => z) (QS m h r)) {h : xH} {S : mS} {x1 : Int32} {x2 : Int32} {x3 : Int32} {x4 : Int32} {x5 : Int32} {x6 : Int32} {x7 : Int32} {x8 : Int32} {s0 : Int32} {s1 : Int32} {s2 : Int32} {r : mS} (H : RF h m S) (hf : gj210_84 k18 k50 x1 x2 x3 x4 x5 x6 x7 x8 s0 s1 s2 S = some r) : EX (j210_84 f18 f50 (some m) x1 x2 x3 x4 x5 x6 x7 x8 s0 s1 s2 h) (fun z => z) (QS m h r) := by
  have F := FM.rfl' (m := m) (h := h)
  unfold gj210_84 at hf
  unfold j210_84
  by_cases c_1 : x8 = x5
  · replace hf := x_pos c_1 hf
    refine EX.pos c_1 ?_
    exact EX.uS F (gj210_101_ok (k18 := k18) (f18 := f18) hk18 (k50 := k50) (f50 := f50) hk50 H hf)
  · replace hf := x_neg c_1 hf
    refine EX.neg c_1 ?_
    by_cases c_2 : x1 < (s0 + (s1 + s2))
    · replace hf := x_pos c_2 hf
      refine EX.pos c_2 ?_
      exact EX.uS F (gj210_106_ok (k18 := k18) (f18 := f18) hk18 (k50 := k50) (f50 := f50) hk50 H hf)
    · replace hf := x_neg c_2 hf
      refine EX.neg c_2 ?_
      exact EX.uS F (gj210_101_ok (k18 := k18) (f18 := f18) hk18 (k50 := k50) (f50 := f50) hk50 H hf)
theorem gl210_50_ok {m : Nat} {k18 : Int32 → Int32 → Int32 → Int32 → Int32 → mS → Option mS} {f18 : Option Nat → Int32 → Int32 → Int32 → Int32 → Int32 → xH → Option xH} (hk18 : ∀ {h : xH} {S : mS} {x1 : Int32} {x2 : Int32} {x3 : Int32} {x4 : Int32} {x5 : Int32} {r : mS}, RF h m S → k18 x1 x2 x3 x4 x5 S = some r → EX (f18 (some m) x1 x2 x3 x4 x5 h) (fun z => z) (QS m h r)) : ∀ (n : Nat) {h : xH} {S : mS} {x1 : Int32} {x2 : Int32} {x3 : Int32} {x4 : Int32} {x5 : Int32} {x6 : Int32} {x7 : Int32} {x8 : Int32} {r : mS} (H : RF h m S), gl210_50 k18 n x1 x2 x3 x4 x5 x6 x7 x8 S = some r → EX (l210_50 f18 n (some m) x1 x2 x3 x4 x5 x6 x7 x8 h) (fun z => z) (QS m h r) := by
  intro n
  induction n with
  | zero => intros; rename_i hf; cases hf
  | succ n ih =>
    intro h S x1 x2 x3 x4 x5 x6 x7 x8 r H hf
    have F := FM.rfl' (m := m) (h := h)
    replace hf : ((if (S.1 63) ≤ x8 then gj210_204 k18 x1 x2 x3 x4 x5 x6 x7 x8 S else (if x7 = 0 then gj210_204 k18 x1 x2 x3 x4 x5 x6 x7 x8 S else (g208 x8 S).bind fun r_4 => (if x8 ≤ x5 then gj210_84 k18 (gl210_50 k18 n) x1 x2 x3 x4 x5 x6 x7 x8 x6 r_4.1 0 r_4.2 else gj210_84 k18 (gl210_50 k18 n) x1 x2 x3 x4 x5 x6 x7 x8 x6 r_4.1 1 r_4.2)))) = some r := hf
    unfold l210_50
    refine EX.bd (H.gI 63) ?_
    by_cases c_1 : (S.1 63) ≤ x8
    · replace hf := x_pos c_1 hf
      refine EX.pos c_1 ?_
      exact EX.uS F (gj210_204_ok (k18 := k18) (f18 := f18) hk18 H hf)
    · replace hf := x_neg c_1 hf
      refine EX.neg c_1 ?_
      by_cases c_2 : x7 = 0
      · replace hf := x_pos c_2 hf
        refine EX.pos c_2 ?_
        exact EX.uS F (gj210_204_ok (k18 := k18) (f18 := f18) hk18 H hf)
      · replace hf := x_neg c_2 hf
        refine EX.neg c_2 ?_
        have Hc_ := H.cv
        obtain ⟨r_4, er_4, hf⟩ := x_bind hf
        obtain ⟨h_3, eh_3, H, F_⟩ := g208_ok H er_4
        refine EX.bd Hc_ ?_
        refine EX.bd eh_3 ?_
        dsimp only
        replace F := F.tr F_
        by_cases c_5 : x8 ≤ x5
        · replace hf := x_pos c_5 hf
          refine EX.pos c_5 ?_
          exact EX.uS F (gj210_84_ok (k18 := k18) (f18 := f18) hk18 (k50 := (gl210_50 k18 n)) (f50 := (l210_50 f18 n)) ih H hf)
        · replace hf := x_neg c_5 hf
          refine EX.neg c_5 ?_
          exact EX.uS F (gj210_84_ok (k18 := k18) (f18 := f18) hk18 (k50 := (gl210_50 k18 n)) (f50 := (l210_50 f18 n)) ih H hf)
theorem gj210_33_ok {m : Nat} {k18 : Int32 → Int32 → Int32 → Int32 → Int32 → mS → Option mS} {f18 : Option Nat → Int32 → Int32 → Int32 → Int32 → Int32 → xH → Option xH} (hk18 : ∀ {h : xH} {S : mS} {x1 : Int32} {x2 : Int32} {x3 : Int32} {x4 : Int32} {x5 : Int32} {r : mS}, RF h m S → k18 x1 x2 x3 x4 x5 S = some r → EX (f18 (some m) x1 x2 x3 x4 x5 h) (fun z => z) (QS m h r)) {h : xH} {S : mS} {x1 : Int32} {x2 : Int32} {x3 : Int32} {x4 : Int32} {x5 : Int32} {s0 : Int32} {r : mS} (H : RF h m S) (hf : gj210_33 k18 x1 x2 x3 x4 x5 s0 S = some r) : EX (j210_33 f18 (some m) x1 x2 x3 x4 x5 s0 h) (fun z => z) (QS m h r) := by
  have F := FM.rfl' (m := m) (h := h)
  unfold gj210_33 at hf
  unfold j210_33
  refine EX.bd (H.gR 64) ?_
  obtain ⟨S_1, eS_1, hf⟩ := x_bind hf
  obtain ⟨h_2, eh_2, H, F_⟩ := H.aS (by decide) eS_1
  refine EX.bd eh_2 ?_
  replace F := F.tr F_
  exact EX.uS F (gl210_50_ok (k18 := k18) (f18 := f18) hk18 xFuel H hf)
theorem gl210_18_ok {m : Nat} : ∀ (n : Nat) {h : xH} {S : mS} {x1 : Int32} {x2 : Int32} {x3 : Int32} {x4 : Int32} {x5 : Int32} {r : mS} (H : RF h m S), gl210_18 n x1 x2 x3 x4 x5 S = some r → EX (l210_18 n (some m) x1 x2 x3 x4 x5 h) (fun z => z) (QS m h r) := by
  intro n
  induction n with
  | zero => intros; rename_i hf; cases hf
  | succ n ih =>
    intro h S x1 x2 x3 x4 x5 r H hf
    have F := FM.rfl' (m := m) (h := h)
    replace hf : ((if x5 < 0 then some S else (if x5 = 0 then gj210_33 (gl210_18 n) x1 x2 x3 x4 x5 x2 S else gj210_33 (gl210_18 n) x1 x2 x3 x4 x5 x3 S))) = some r := hf
    unfold l210_18
    by_cases c_1 : x5 < 0
    · replace hf := x_pos c_1 hf
      refine EX.pos c_1 ?_
      obtain rfl := Option.some.inj hf
      exact ⟨_, rfl, H, F⟩
    · replace hf := x_neg c_1 hf
      refine EX.neg c_1 ?_
      by_cases c_2 : x5 = 0
      · replace hf := x_pos c_2 hf
        refine EX.pos c_2 ?_
        exact EX.uS F (gj210_33_ok (k18 := (gl210_18 n)) (f18 := (l210_18 n)) ih H hf)
      · replace hf := x_neg c_2 hf
        refine EX.neg c_2 ?_
        exact EX.uS F (gj210_33_ok (k18 := (gl210_18 n)) (f18 := (l210_18 n)) ih H hf)
theorem g210_ok {h : xH} {m : Nat} {S : mS} {x1 : Int32} {x2 : Int32} {x3 : Int32} {x4 : Int32} {r : mS} (H : RF h m S) (hf : g210 x1 x2 x3 x4 S = some r) : EX (fn210 (some m) x1 x2 x3 x4 h) (fun z => z) (QS m h r) := by
  have F := FM.rfl' (m := m) (h := h)
  unfold g210 at hf
  unfold fn210
  refine EX.bd (H.gR 65) ?_
  refine EX.bd (H.gI 63) ?_
  obtain ⟨S_1, eS_1, hf⟩ := x_bind hf
  obtain ⟨h_2, eh_2, H, F_⟩ := H.aS (by decide) eS_1
  refine EX.bd eh_2 ?_
  replace F := F.tr F_
  refine EX.bd (H.gI 63) ?_
  exact EX.uS F (gl210_18_ok xFuel H hf)
end
section
theorem gl211_283_ok {m : Nat} {k103 : Int32 → Int32 → Int32 → Int32 → Int32 → Int32 → Int32 → Int32 → Int32 → mS → Option mS} {f103 : Option Nat → Int32 → Int32 → Int32 → Int32 → Int32 → Int32 → Int32 → Int32 → Int32 → xH → Option xH} (hk103 : ∀ {h : xH} {S : mS} {x1 : Int32} {x2 : Int32} {x3 : Int32} {x4 : Int32} {x5 : Int32} {x6 : Int32} {x7 : Int32} {x8 : Int32} {x9 : Int32} {r : mS}, RF h m S → k103 x1 x2 x3 x4 x5 x6 x7 x8 x9 S = some r → EX (f103 (some m) x1 x2 x3 x4 x5 x6 x7 x8 x9 h) (fun z => z) (QS m h r)) {k257 : Int32 → Int32 → Int32 → Int32 → Int32 → Int32 → Int32 → Int32 → Int32 → Int32 → Int32 → Int32 → mS → Option mS} {f257 : Option Nat → Int32 → Int32 → Int32 → Int32 → Int32 → Int32 → Int32 → Int32 → Int32 → Int32 → Int32 → Int32 → xH → Option xH} (hk257 : ∀ {h : xH} {S : mS} {x1 : Int32} {x2 : Int32} {x3 : Int32} {x4 : Int32} {x5 : Int32} {x6 : Int32} {x7 : Int32} {x8 : Int32} {x9 : Int32} {x10 : Int32} {x11 : Int32} {x12 : Int32} {r : mS}, RF h m S → k257 x1 x2 x3 x4 x5 x6 x7 x8 x9 x10 x11 x12 S = some r → EX (f257 (some m) x1 x2 x3 x4 x5 x6 x7 x8 x9 x10 x11 x12 h) (fun z => z) (QS m h r)) : ∀ (n : Nat) {h : xH} {S : mS} {x1 : Int32} {x2 : Int32} {x3 : Int32} {x4 : Int32} {x5 : Int32} {x6 : Int32} {x7 : Int32} {x8 : Int32} {x9 : Int32} {x10 : Int32} {x11 : Int32} {x12 : Int32} {x13 : Int32} {r : mS} (H : RF h m S), gl211_283 k103 k257 n x1 x2 x3 x4 x5 x6 x7 x8 x9 x10 x11 x12 x13 S = some r → EX (l211_283 f103 f257 n (some m) x1 x2 x3 x4 x5 x6 x7 x8 x9 x10 x11 x12 x13 h) (fun z => z) (QS m h r) := by
  intro n
  induction n with
  | zero => intros; rename_i hf; cases hf
  | succ n ih =>
    intro h S x1 x2 x3 x4 x5 x6 x7 x8 x9 x10 x11 x12 x13 r H hf
    have F := FM.rfl' (m := m) (h := h)
    replace hf : ((g208 x12 S).bind fun r_2 => (if r_2.1 ≤ x13 then k257 x1 x2 x3 x4 x5 x6 x7 x8 x9 x10 x11 (x12 + 1) r_2.2 else (sLd r_2.2 62 x12).bind fun v_4 => (sLd r_2.2 60 (v_4 + x13)).bind fun v_5 => (g195 v_5 r_2.2).bind fun S_7 => gl211_283 k103 k257 n x1 x2 x3 x4 x5 x6 x7 x8 x9 x10 x11 x12 (x13 + 1) S_7)) = some r := hf
    unfold l211_283
    have Hc_ := H.cv
    obtain ⟨r_2, er_2, hf⟩ := x_bind hf
    obtain ⟨h_1, eh_1, H, F_⟩ := g208_ok H er_2
    refine EX.bd Hc_ ?_
    refine EX.bd eh_1 ?_
    dsimp only
    replace F := F.tr F_
    by_cases c_3 : r_2.1 ≤ x13
    · replace hf := x_pos c_3 hf
      refine EX.pos c_3 ?_
      exact EX.uS F (hk257 H hf)
    · replace hf := x_neg c_3 hf
      refine EX.neg c_3 ?_
      refine EX.bd (H.gR 60) ?_
      refine EX.bd (H.gR 62) ?_
      obtain ⟨v_4, ev_4, hf⟩ := x_bind hf
      refine EX.bd (H.aI (by decide) ev_4) ?_
      obtain ⟨v_5, ev_5, hf⟩ := x_bind hf
      refine EX.bd (H.aI (by decide) ev_5) ?_
      have Hc_ := H.cv
      obtain ⟨S_7, eS_7, hf⟩ := x_bind hf
      obtain ⟨h_6, eh_6, H, F_⟩ := g195_ok H eS_7
      refine EX.bd Hc_ ?_
      refine EX.bd eh_6 ?_
      replace F := F.tr F_
      exact EX.uS F (ih H hf)
theorem gj211_280_ok {m : Nat} {k103 : Int32 → Int32 → Int32 → Int32 → Int32 → Int32 → Int32 → Int32 → Int32 → mS → Option mS} {f103 : Option Nat → Int32 → Int32 → Int32 → Int32 → Int32 → Int32 → Int32 → Int32 → Int32 → xH → Option xH} (hk103 : ∀ {h : xH} {S : mS} {x1 : Int32} {x2 : Int32} {x3 : Int32} {x4 : Int32} {x5 : Int32} {x6 : Int32} {x7 : Int32} {x8 : Int32} {x9 : Int32} {r : mS}, RF h m S → k103 x1 x2 x3 x4 x5 x6 x7 x8 x9 S = some r → EX (f103 (some m) x1 x2 x3 x4 x5 x6 x7 x8 x9 h) (fun z => z) (QS m h r)) {k257 : Int32 → Int32 → Int32 → Int32 → Int32 → Int32 → Int32 → Int32 → Int32 → Int32 → Int32 → Int32 → mS → Option mS} {f257 : Option Nat → Int32 → Int32 → Int32 → Int32 → Int32 → Int32 → Int32 → Int32 → Int32 → Int32 → Int32 → Int32 → xH → Option xH} (hk257 : ∀ {h : xH} {S : mS} {x1 : Int32} {x2 : Int32} {x3 : Int32} {x4 : Int32} {x5 : Int32} {x6 : Int32} {x7 : Int32} {x8 : Int32} {x9 : Int32} {x10 : Int32} {x11 : Int32} {x12 : Int32} {r : mS}, RF h m S → k257 x1 x2 x3 x4 x5 x6 x7 x8 x9 x10 x11 x12 S = some r → EX (f257 (some m) x1 x2 x3 x4 x5 x6 x7 x8 x9 x10 x11 x12 h) (fun z => z) (QS m h r)) {h : xH} {S : mS} {x1 : Int32} {x2 : Int32} {x3 : Int32} {x4 : Int32} {x5 : Int32} {x6 : Int32} {x7 : Int32} {x8 : Int32} {x9 : Int32} {x10 : Int32} {x11 : Int32} {x12 : Int32} {r : mS} (H : RF h m S) (hf : gj211_280 k103 k257 x1 x2 x3 x4 x5 x6 x7 x8 x9 x10 x11 x12 S = some r) : EX (j211_280 f103 f257 (some m) x1 x2 x3 x4 x5 x6 x7 x8 x9 x10 x11 x12 h) (fun z => z) (QS m h r) := by
  have F := FM.rfl' (m := m) (h := h)
  unfold gj211_280 at hf
  unfold j211_280
  exact EX.uS F (gl211_283_ok (k103 := k103) (f103 := f103) hk103 (k257 := k257) (f257 := f257) hk257 xFuel H hf)
theorem gl211_257_ok {m : Nat} {k103 : Int32 → Int32 → Int32 → Int32 → Int32 → Int32 → Int32 → Int32 → Int32 → mS → Option mS} {f103 : Option Nat → Int32 → Int32 → Int32 → Int32 → Int32 → Int32 → Int32 → Int32 → Int32 → xH → Option xH} (hk103 : ∀ {h : xH} {S : mS} {x1 : Int32} {x2 : Int32} {x3 : Int32} {x4 : Int32} {x5 : Int32} {x6 : Int32} {x7 : Int32} {x8 : Int32} {x9 : Int32} {r : mS}, RF h m S → k103 x1 x2 x3 x4 x5 x6 x7 x8 x9 S = some r → EX (f103 (some m) x1 x2 x3 x4 x5 x6 x7 x8 x9 h) (fun z => z) (QS m h r)) : ∀ (n : Nat) {h : xH} {S : mS} {x1 : Int32} {x2 : Int32} {x3 : Int32} {x4 : Int32} {x5 : Int32} {x6 : Int32} {x7 : Int32} {x8 : Int32} {x9 : Int32} {x10 : Int32} {x11 : Int32} {x12 : Int32} {r : mS} (H : RF h m S), gl211_257 k103 n x1 x2 x3 x4 x5 x6 x7 x8 x9 x10 x11 x12 S = some r → EX (l211_257 f103 n (some m) x1 x2 x3 x4 x5 x6 x7 x8 x9 x10 x11 x12 h) (fun z => z) (QS m h r) := by
  intro n
  induction n with
  | zero => intros; rename_i hf; cases hf
  | succ n ih =>
    intro h S x1 x2 x3 x4 x5 x6 x7 x8 x9 x10 x11 x12 r H hf
    have F := FM.rfl' (m := m) (h := h)
    replace hf : ((if (x8 + x11) ≤ x12 then (g198  S).bind fun S_3 => k103 x1 x2 x3 x4 x5 x6 x7 (x8 + x11) 0 S_3 else (if x12 ≤ x8 then gj211_280 k103 (gl211_257 k103 n) x1 x2 x3 x4 x5 x6 x7 x8 x9 x10 x11 x12 S else (g195 32 S).bind fun S_6 => gj211_280 k103 (gl211_257 k103 n) x1 x2 x3 x4 x5 x6 x7 x8 x9 x10 x11 x12 S_6))) = some r := hf
    unfold l211_257
    by_cases c_1 : (x8 + x11) ≤ x12
    · replace hf := x_pos c_1 hf
      refine EX.pos c_1 ?_
      have Hc_ := H.cv
      obtain ⟨S_3, eS_3, hf⟩ := x_bind hf
      obtain ⟨h_2, eh_2, H, F_⟩ := g198_ok H eS_3
      refine EX.bd Hc_ ?_
      refine EX.bd eh_2 ?_
      replace F := F.tr F_
      exact EX.uS F (hk103 H hf)
    · replace hf := x_neg c_1 hf
      refine EX.neg c_1 ?_
      by_cases c_4 : x12 ≤ x8
      · replace hf := x_pos c_4 hf
        refine EX.pos c_4 ?_
        exact EX.uS F (gj211_280_ok (k103 := k103) (f103 := f103) hk103 (k257 := (gl211_257 k103 n)) (f257 := (l211_257 f103 n)) ih H hf)
      · replace hf := x_neg c_4 hf
        refine EX.neg c_4 ?_
        have Hc_ := H.cv
        obtain ⟨S_6, eS_6, hf⟩ := x_bind hf
        obtain ⟨h_5, eh_5, H, F_⟩ := g195_ok H eS_6
        refine EX.bd Hc_ ?_
        refine EX.bd eh_5 ?_
        replace F := F.tr F_
        exact EX.uS F (gj211_280_ok (k103 := k103) (f103 := f103) hk103 (k257 := (gl211_257 k103 n)) (f257 := (l211_257 f103 n)) ih H hf)
theorem gj211_251_ok {m : Nat} {k103 : Int32 → Int32 → Int32 → Int32 → Int32 → Int32 → Int32 → Int32 → Int32 → mS → Option mS} {f103 : Option Nat → Int32 → Int32 → Int32 → Int32 → Int32 → Int32 → Int32 → Int32 → Int32 → xH → Option xH} (hk103 : ∀ {h : xH} {S : mS} {x1 : Int32} {x2 : Int32} {x3 : Int32} {x4 : Int32} {x5 : Int32} {x6 : Int32} {x7 : Int32} {x8 : Int32} {x9 : Int32} {r : mS}, RF h m S → k103 x1 x2 x3 x4 x5 x6 x7 x8 x9 S = some r → EX (f103 (some m) x1 x2 x3 x4 x5 x6 x7 x8 x9 h) (fun z => z) (QS m h r)) {h : xH} {S : mS} {x1 : Int32} {x2 : Int32} {x3 : Int32} {x4 : Int32} {x5 : Int32} {x6 : Int32} {x7 : Int32} {x8 : Int32} {x9 : Int32} {x10 : Int32} {x11 : Int32} {s0 : Int32} {r : mS} (H : RF h m S) (hf : gj211_251 k103 x1 x2 x3 x4 x5 x6 x7 x8 x9 x10 x11 s0 S = some r) : EX (j211_251 f103 (some m) x1 x2 x3 x4 x5 x6 x7 x8 x9 x10 x11 s0 h) (fun z => z) (QS m h r) := by
  have F := FM.rfl' (m := m) (h := h)
  unfold gj211_251 at hf
  unfold j211_251
  exact EX.uS F (gl211_257_ok (k103 := k103) (f103 := f103) hk103 xFuel H hf)
theorem gj211_225_ok {m : Nat} {k103 : Int32 → Int32 → Int32 → Int32 → Int32 → Int32 → Int32 → Int32 → Int32 → mS → Option mS} {f103 : Option Nat → Int32 → Int32 → Int32 → Int32 → Int32 → Int32 → Int32 → Int32 → Int32 → xH → Option xH} (hk103 : ∀ {h : xH} {S : mS} {x1 : Int32} {x2 : Int32} {x3 : Int32} {x4 : Int32} {x5 : Int32} {x6 : Int32} {x7 : Int32} {x8 : Int32} {x9 : Int32} {r : mS}, RF h m S → k103 x1 x2 x3 x4 x5 x6 x7 x8 x9 S = some r → EX (f103 (some m) x1 x2 x3 x4 x5 x6 x7 x8 x9 h) (fun z => z) (QS m h r)) {k138 : Int32 → Int32 → Int32 → Int32 → Int32 → Int32 → Int32 → Int32 → Int32 → Int32 → Int32 → mS → Option mS} {f138 : Option Nat → Int32 → Int32 → Int32 → Int32 → Int32 → Int32 → Int32 → Int32 → Int32 → Int32 → Int32 → xH → Option xH} (hk138 : ∀ {h : xH} {S : mS} {x1 : Int32} {x2 : Int32} {x3 : Int32} {x4 : Int32} {x5 : Int32} {x6 : Int32} {x7 : Int32} {x8 : Int32} {x9 : Int32} {x10 : Int32} {x11 : Int32} {r : mS}, RF h m S → k138 x1 x2 x3 x4 x5 x6 x7 x8 x9 x10 x11 S = some r → EX (f138 (some m) x1 x2 x3 x4 x5 x6 x7 x8 x9 x10 x11 h) (fun z => z) (QS m h r)) {h : xH} {S : mS} {x1 : Int32} {x2 : Int32} {x3 : Int32} {x4 : Int32} {x5 : Int32} {x6 : Int32} {x7 : Int32} {x8 : Int32} {x9 : Int32} {x10 : Int32} {x11 : Int32} {x12 : Int32} {x13 : Int32} {r : mS} (H : RF h m S) (hf : gj211_225 k103 k138 x1 x2 x3 x4 x5 x6 x7 x8 x9 x10 x11 x12 x13 S = some r) : EX (j211_225 f103 f138 (some m) x1 x2 x3 x4 x5 x6 x7 x8 x9 x10 x11 x12 x13 h) (fun z => z) (QS m h r) := by
  have F := FM.rfl' (m := m) (h := h)
  unfold gj211_225 at hf
  unfold j211_225
  exact EX.uS F (hk138 H hf)
theorem gj211_222_ok {m : Nat} {k103 : Int32 → Int32 → Int32 → Int32 → Int32 → Int32 → Int32 → Int32 → Int32 → mS → Option mS} {f103 : Option Nat → Int32 → Int32 → Int32 → Int32 → Int32 → Int32 → Int32 → Int32 → Int32 → xH → Option xH} (hk103 : ∀ {h : xH} {S : mS} {x1 : Int32} {x2 : Int32} {x3 : Int32} {x4 : Int32} {x5 : Int32} {x6 : Int32} {x7 : Int32} {x8 : Int32} {x9 : Int32} {r : mS}, RF h m S → k103 x1 x2 x3 x4 x5 x6 x7 x8 x9 S = some r → EX (f103 (some m) x1 x2 x3 x4 x5 x6 x7 x8 x9 h) (fun z => z) (QS m h r)) {k138 : Int32 → Int32 → Int32 → Int32 → Int32 → Int32 → Int32 → Int32 → Int32 → Int32 → Int32 → mS → Option mS} {f138 : Option Nat → Int32 → Int32 → Int32 → Int32 → Int32 → Int32 → Int32 → Int32 → Int32 → Int32 → Int32 → xH → Option xH} (hk138 : ∀ {h : xH} {S : mS} {x1 : Int32} {x2 : Int32} {x3 : Int32} {x4 : Int32} {x5 : Int32} {x6 : Int32} {x7 : Int32} {x8 : Int32} {x9 : Int32} {x10 : Int32} {x11 : Int32} {r : mS}, RF h m S → k138 x1 x2 x3 x4 x5 x6 x7 x8 x9 x10 x11 S = some r → EX (f138 (some m) x1 x2 x3 x4 x5 x6 x7 x8 x9 x10 x11 h) (fun z => z) (QS m h r)) {h : xH} {S : mS} {x1 : Int32} {x2 : Int32} {x3 : Int32} {x4 : Int32} {x5 : Int32} {x6 : Int32} {x7 : Int32} {x8 : Int32} {x9 : Int32} {x10 : Int32} {x11 : Int32} {x12 : Int32} {x13 : Int32} {s1 : Int32} {r : mS} (H : RF h m S) (hf : gj211_222 k103 k138 x1 x2 x3 x4 x5 x6 x7 x8 x9 x10 x11 x12 x13 s1 S = some r) : EX (j211_222 f103 f138 (some m) x1 x2 x3 x4 x5 x6 x7 x8 x9 x10 x11 x12 x13 (some m) s1 h) (fun z => z) (QS m h r) := by
  have F := FM.rfl' (m := m) (h := h)
  unfold gj211_222 at hf
  unfold j211_222
  have Hc_ := H.cv
  obtain ⟨S_2, eS_2, hf⟩ := x_bind hf
  obtain ⟨h_1, eh_1, H, F_⟩ := g195_ok H eS_2
  refine EX.bd Hc_ ?_
  refine EX.bd eh_1 ?_
  replace F := F.tr F_
  exact EX.uS F (gj211_225_ok (k103 := k103) (f103 := f103) hk103 (k138 := k138) (f138 := f138) hk138 H hf)
theorem gj211_202_ok {m : Nat} {k103 : Int32 → Int32 → Int32 → Int32 → Int32 → Int32 → Int32 → Int32 → Int32 → mS → Option mS} {f103 : Option Nat → Int32 → Int32 → Int32 → Int32 → Int32 → Int32 → Int32 → Int32 → Int32 → xH → Option xH} (hk103 : ∀ {h : xH} {S : mS} {x1 : Int32} {x2 : Int32} {x3 : Int32} {x4 : Int32} {x5 : Int32} {x6 : Int32} {x7 : Int32} {x8 : Int32} {x9 : Int32} {r : mS}, RF h m S → k103 x1 x2 x3 x4 x5 x6 x7 x8 x9 S = some r → EX (f103 (some m) x1 x2 x3 x4 x5 x6 x7 x8 x9 h) (fun z => z) (QS m h r)) {k138 : Int32 → Int32 → Int32 → Int32 → Int32 → Int32 → Int32 → Int32 → Int32 → Int32 → Int32 → mS → Option mS} {f138 : Option Nat → Int32 → Int32 → Int32 → Int32 → Int32 → Int32 → Int32 → Int32 → Int32 → Int32 → Int32 → xH → Option xH} (hk138 : ∀ {h : xH} {S : mS} {x1 : Int32} {x2 : Int32} {x3 : Int32} {x4 : Int32} {x5 : Int32} {x6 : Int32} {x7 : Int32} {x8 : Int32} {x9 : Int32} {x10 : Int32} {x11 : Int32} {r : mS}, RF h m S → k138 x1 x2 x3 x4 x5 x6 x7 x8 x9 x10 x11 S = some r → EX (f138 (some m) x1 x2 x3 x4 x5 x6 x7 x8 x9 x10 x11 h) (fun z => z) (QS m h r)) {h : xH} {S : mS} {x1 : Int32} {x2 : Int32} {x3 : Int32} {x4 : Int32} {x5 : Int32} {x6 : Int32} {x7 : Int32} {x8 : Int32} {x9 : Int32} {x10 : Int32} {x11 : Int32} {x12 : Int32} {s0 : Int32} {r : mS} (H : RF h m S) (hf : gj211_202 k103 k138 x1 x2 x3 x4 x5 x6 x7 x8 x9 x10 x11 x12 s0 S = some r) : EX (j211_202 f103 f138 (some m) x1 x2 x3 x4 x5 x6 x7 x8 x9 x10 x11 x12 s0 h) (fun z => z) (QS m h r) := by
  have F := FM.rfl' (m := m) (h := h)
  unfold gj211_202 at hf
  unfold j211_202
  by_cases c_1 : s0 = 0
  · replace hf := x_pos c_1 hf
    refine EX.pos c_1 ?_
    by_cases c_2 : x12 = 0
    · replace hf := x_pos c_2 hf
      refine EX.pos c_2 ?_
      exact EX.uS F (gj211_222_ok (k103 := k103) (f103 := f103) hk103 (k138 := k138) (f138 := f138) hk138 H hf)
    · replace hf := x_neg c_2 hf
      refine EX.neg c_2 ?_
      exact EX.uS F (gj211_222_ok (k103 := k103) (f103 := f103) hk103 (k138 := k138) (f138 := f138) hk138 H hf)
  · replace hf := x_neg c_1 hf
    refine EX.neg c_1 ?_
    exact EX.uS F (gj211_225_ok (k103 := k103) (f103 := f103) hk103 (k138 := k138) (f138 := f138) hk138 H hf)
theorem gj211_201_ok {m : Nat} {k103 : Int32 → Int32 → Int32 → Int32 → Int32 → Int32 → Int32 → Int32 → Int32 → mS → Option mS} {f103 : Option Nat → Int32 → Int32 → Int32 → Int32 → Int32 → Int32 → Int32 → Int32 → Int32 → xH → Option xH} (hk103 : ∀ {h : xH} {S : mS} {x1 : Int32} {x2 : Int32} {x3 : Int32} {x4 : Int32} {x5 : Int32} {x6 : Int32} {x7 : Int32} {x8 : Int32} {x9 : Int32} {r : mS}, RF h m S → k103 x1 x2 x3 x4 x5 x6 x7 x8 x9 S = some r → EX (f103 (some m) x1 x2 x3 x4 x5 x6 x7 x8 x9 h) (fun z => z) (QS m h r)) {k138 : Int32 → Int32 → Int32 → Int32 → Int32 → Int32 → Int32 → Int32 → Int32 → Int32 → Int32 → mS → Option mS} {f138 : Option Nat → Int32 → Int32 → Int32 → Int32 → Int32 → Int32 → Int32 → Int32 → Int32 → Int32 → Int32 → xH → Option xH} (hk138 : ∀ {h : xH} {S : mS} {x1 : Int32} {x2 : Int32} {x3 : Int32} {x4 : Int32} {x5 : Int32} {x6 : Int32} {x7 : Int32} {x8 : Int32} {x9 : Int32} {x10 : Int32} {x11 : Int32} {r : mS}, RF h m S → k138 x1 x2 x3 x4 x5 x6 x7 x8 x9 x10 x11 S = some r → EX (f138 (some m) x1 x2 x3 x4 x5 x6 x7 x8 x9 x10 x11 h) (fun z => z) (QS m h r)) {h : xH} {S : mS} {x1 : Int32} {x2 : Int32} {x3 : Int32} {x4 : Int32} {x5 : Int32} {x6 : Int32} {x7 : Int32} {x8 : Int32} {x9 : Int32} {x10 : Int32} {x11 : Int32} {x12 : Int32} {r : mS} (H : RF h m S) (hf : gj211_201 k103 k138 x1 x2 x3 x4 x5 x6 x7 x8 x9 x10 x11 x12 S = some r) : EX (j211_201 f103 f138 (some m) x1 x2 x3 x4 x5 x6 x7 x8 x9 x10 x11 x12 h) (fun z => z) (QS m h r) := by
  have F := FM.rfl' (m := m) (h := h)
  unfold gj211_201 at hf
  unfold j211_201
  exact EX.uS F (gj211_202_ok (k103 := k103) (f103 := f103) hk103 (k138 := k138) (f138 := f138) hk138 H hf)
theorem gj211_169_ok {m : Nat} {k103 : Int32 → Int32 → Int32 → Int32 → Int32 → Int32 → Int32 → Int32 → Int32 → mS → Option mS} {f103 : Option Nat → Int32 → Int32 → Int32 → Int32 → Int32 → Int32 → Int32 → Int32 → Int32 → xH → Option xH} (hk103 : ∀ {h : xH} {S : mS} {x1 : Int32} {x2 : Int32} {x3 : Int32} {x4 : Int32} {x5 : Int32} {x6 : Int32} {x7 : Int32} {x8 : Int32} {x9 : Int32} {r : mS}, RF h m S → k103 x1 x2 x3 x4 x5 x6 x7 x8 x9 S = some r → EX (f103 (some m) x1 x2 x3 x4 x5 x6 x7 x8 x9 h) (fun z => z) (QS m h r)) {k138 : Int32 → Int32 → Int32 → Int32 → Int32 → Int32 → Int32 → Int32 → Int32 → Int32 → Int32 → mS → Option mS} {f138 : Option Nat → Int32 → Int32 → Int32 → Int32 → Int32 → Int32 → Int32 → Int32 → Int32 → Int32 → Int32 → xH → Option xH} (hk138 : ∀ {h : xH} {S : mS} {x1 : Int32} {x2 : Int32} {x3 : Int32} {x4 : Int32} {x5 : Int32} {x6 : Int32} {x7 : Int32} {x8 : Int32} {x9 : Int32} {x10 : Int32} {x11 : Int32} {r : mS}, RF h m S → k138 x1 x2 x3 x4 x5 x6 x7 x8 x9 x10 x11 S = some r → EX (f138 (some m) x1 x2 x3 x4 x5 x6 x7 x8 x9 x10 x11 h) (fun z => z) (QS m h r)) {h : xH} {S : mS} {x1 : Int32} {x2 : Int32} {x3 : Int32} {x4 : Int32} {x5 : Int32} {x6 : Int32} {x7 : Int32} {x8 : Int32} {x9 : Int32} {x10 : Int32} {x11 : Int32} {s0 : Int32} {r : mS} (H : RF h m S) (hf : gj211_169 k103 k138 x1 x2 x3 x4 x5 x6 x7 x8 x9 x10 x11 s0 S = some r) : EX (j211_169 f103 f138 (some m) x1 x2 x3 x4 x5 x6 x7 x8 x9 x10 x11 s0 h) (fun z => z) (QS m h r) := by
  have F := FM.rfl' (m := m) (h := h)
  unfold gj211_169 at hf
  unfold j211_169
  by_cases c_1 : x5 = 0
  · replace hf := x_pos c_1 hf
    refine EX.pos c_1 ?_
    exact EX.uS F (gj211_201_ok (k103 := k103) (f103 := f103) hk103 (k138 := k138) (f138 := f138) hk138 H hf)
  · replace hf := x_neg c_1 hf
    refine EX.neg c_1 ?_
    by_cases c_2 : x9 = 0
    · replace hf := x_pos c_2 hf
      refine EX.pos c_2 ?_
      exact EX.uS F (gj211_201_ok (k103 := k103) (f103 := f103) hk103 (k138 := k138) (f138 := f138) hk138 H hf)
    · replace hf := x_neg c_2 hf
      refine EX.neg c_2 ?_
      by_cases c_3 : x11 = (x10 - 1)
      · replace hf := x_pos c_3 hf
        refine EX.pos c_3 ?_
        refine EX.bd (H.gI 63) ?_
        by_cases c_4 : (S.1 63) = 0
        · replace hf := x_pos c_4 hf
          refine EX.pos c_4 ?_
          exact EX.uS F (gj211_202_ok (k103 := k103) (f103 := f103) hk103 (k138 := k138) (f138 := f138) hk138 H hf)
        · replace hf := x_neg c_4 hf
          refine EX.neg c_4 ?_
          exact EX.uS F (gj211_201_ok (k103 := k103) (f103 := f103) hk103 (k138 := k138) (f138 := f138) hk138 H hf)
      · replace hf := x_neg c_3 hf
        refine EX.neg c_3 ?_
        exact EX.uS F (gj211_201_ok (k103 := k103) (f103 := f103) hk103 (k138 := k138) (f138 := f138) hk138 H hf)
theorem gj211_168_ok {m : Nat} {k103 : Int32 → Int32 → Int32 → Int32 → Int32 → Int32 → Int32 → Int32 → Int32 → mS → Option mS} {f103 : Option Nat → Int32 → Int32 → Int32 → Int32 → Int32 → Int32 → Int32 → Int32 → Int32 → xH → Option xH} (hk103 : ∀ {h : xH} {S : mS} {x1 : Int32} {x2 : Int32} {x3 : Int32} {x4 : Int32} {x5 : Int32} {x6 : Int32} {x7 : Int32} {x8 : Int32} {x9 : Int32} {r : mS}, RF h m S → k103 x1 x2 x3 x4 x5 x6 x7 x8 x9 S = some r → EX (f103 (some m) x1 x2 x3 x4 x5 x6 x7 x8 x9 h) (fun z => z) (QS m h r)) {k138 : Int32 → Int32 → Int32 → Int32 → Int32 → Int32 → Int32 → Int32 → Int32 → Int32 → Int32 → mS → Option mS} {f138 : Option Nat → Int32 → Int32 → Int32 → Int32 → Int32 → Int32 → Int32 → Int32 → Int32 → Int32 → Int32 → xH → Option xH} (hk138 : ∀ {h : xH} {S : mS} {x1 : Int32} {x2 : Int32} {x3 : Int32} {x4 : Int32} {x5 : Int32} {x6 : Int32} {x7 : Int32} {x8 : Int32} {x9 : Int32} {x10 : Int32} {x11 : Int32} {r : mS}, RF h m S → k138 x1 x2 x3 x4 x5 x6 x7 x8 x9 x10 x11 S = some r → EX (f138 (some m) x1 x2 x3 x4 x5 x6 x7 x8 x9 x10 x11 h) (fun z => z) (QS m h r)) {h : xH} {S : mS} {x1 : Int32} {x2 : Int32} {x3 : Int32} {x4 : Int32} {x5 : Int32} {x6 : Int32} {x7 : Int32} {x8 : Int32} {x9 : Int32} {x10 : Int32} {x11 : Int32} {r : mS} (H : RF h m S) (hf : gj211_168 k103 k138 x1 x2 x3 x4 x5 x6 x7 x8 x9 x10 x11 S = some r) : EX (j211_168 f103 f138 (some m) x1 x2 x3 x4 x5 x6 x7 x8 x9 x10 x11 h) (fun z => z) (QS m h r) := by
  have F := FM.rfl' (m := m) (h := h)
  unfold gj211_168 at hf
  unfold j211_168
  exact EX.uS F (gj211_169_ok (k103 := k103) (f103 := f103) hk103 (k138 := k138) (f138 := f138) hk138 H hf)
theorem gl211_138_ok {m : Nat} {k103 : Int32 → Int32 → Int32 → Int32 → Int32 → Int32 → Int32 → Int32 → Int32 → mS → Option mS} {f103 : Option Nat → Int32 → Int32 → Int32 → Int32 → Int32 → Int32 → Int32 → Int32 → Int32 → xH → Option xH} (hk103 : ∀ {h : xH} {S : mS} {x1 : Int32} {x2 : Int32} {x3 : Int32} {x4 : Int32} {x5 : Int32} {x6 : Int32} {x7 : Int32} {x8 : Int32} {x9 : Int32} {r : mS}, RF h m S → k103 x1 x2 x3 x4 x5 x6 x7 x8 x9 S = some r → EX (f103 (some m) x1 x2 x3 x4 x5 x6 x7 x8 x9 h) (fun z => z) (QS m h r)) : ∀ (n : Nat) {h : xH} {S : mS} {x1 : Int32} {x2 : Int32} {x3 : Int32} {x4 : Int32} {x5 : Int32} {x6 : Int32} {x7 : Int32} {x8 : Int32} {x9 : Int32} {x10 : Int32} {x11 : Int32} {r : mS} (H : RF h m S), gl211_138 k103 n x1 x2 x3 x4 x5 x6 x7 x8 x9 x10 x11 S = some r → EX (l211_138 f103 n (some m) x1 x2 x3 x4 x5 x6 x7 x8 x9 x10 x11 h) (fun z => z) (QS m h r) := by
  intro n
  induction n with
  | zero => intros; rename_i hf; cases hf
  | succ n ih =>
    intro h S x1 x2 x3 x4 x5 x6 x7 x8 x9 x10 x11 r H hf
    have F := FM.rfl' (m := m) (h := h)
    replace hf : ((if x10 ≤ x11 then (if (S.1 63) ≤ x8 then gj211_251 k103 x1 x2 x3 x4 x5 x6 x7 x8 x9 x10 x11 0 S else (sLd S 64 x8).bind fun v_3 => gj211_251 k103 x1 x2 x3 x4 x5 x6 x7 x8 x9 x10 x11 v_3 S) else (if x5 = 0 then gj211_168 k103 (gl211_138 k103 n) x1 x2 x3 x4 x5 x6 x7 x8 x9 x10 x11 S else (if x9 = 0 then gj211_168 k103 (gl211_138 k103 n) x1 x2 x3 x4 x5 x6 x7 x8 x9 x10 x11 S else (if x11 = (x10 - 2) then gj211_169 k103 (gl211_138 k103 n) x1 x2 x3 x4 x5 x6 x7 x8 x9 x10 x11 1 S else gj211_168 k103 (gl211_138 k103 n) x1 x2 x3 x4 x5 x6 x7 x8 x9 x10 x11 S))))) = some r := hf
    unfold l211_138
    by_cases c_1 : x10 ≤ x11
    · replace hf := x_pos c_1 hf
      refine EX.pos c_1 ?_
      refine EX.bd (H.gI 63) ?_
      by_cases c_2 : (S.1 63) ≤ x8
      · replace hf := x_pos c_2 hf
        refine EX.pos c_2 ?_
        exact EX.uS F (gj211_251_ok (k103 := k103) (f103 := f103) hk103 H hf)
      · replace hf := x_neg c_2 hf
        refine EX.neg c_2 ?_
        refine EX.bd (H.gR 64) ?_
        obtain ⟨v_3, ev_3, hf⟩ := x_bind hf
        refine EX.bd (H.aI (by decide) ev_3) ?_
        exact EX.uS F (gj211_251_ok (k103 := k103) (f103 := f103) hk103 H hf)
    · replace hf := x_neg c_1 hf
      refine EX.neg c_1 ?_
      by_cases c_4 : x5 = 0
      · replace hf := x_pos c_4 hf
        refine EX.pos c_4 ?_
        exact EX.uS F (gj211_168_ok (k103 := k103) (f103 := f103) hk103 (k138 := (gl211_138 k103 n)) (f138 := (l211_138 f103 n)) ih H hf)
      · replace hf := x_neg c_4 hf
        refine EX.neg c_4 ?_
        by_cases c_5 : x9 = 0
        · replace hf := x_pos c_5 hf
          refine EX.pos c_5 ?_
          exact EX.uS F (gj211_168_ok (k103 := k103) (f103 := f103) hk103 (k138 := (gl211_138 k103 n)) (f138 := (l211_138 f103 n)) ih H hf)
        · replace hf := x_neg c_5 hf
          refine EX.neg c_5 ?_
          by_cases c_6 : x11 = (x10 - 2)
          · replace hf := x_pos c_6 hf
            refine EX.pos c_6 ?_
            exact EX.uS F (gj211_169_ok (k103 := k103) (f103 := f103) hk103 (k138 := (gl211_138 k103 n)) (f138 := (l211_138 f103 n)) ih H hf)
          · replace hf := x_neg c_6 hf
            refine EX.neg c_6 ?_
            exact EX.uS F (gj211_168_ok (k103 := k103) (f103 := f103) hk103 (k138 := (gl211_138 k103 n)) (f138 := (l211_138 f103 n)) ih H hf)
theorem gj211_133_ok {m : Nat} {k103 : Int32 → Int32 → Int32 → Int32 → Int32 → Int32 → Int32 → Int32 → Int32 → mS → Option mS} {f103 : Option Nat → Int32 → Int32 → Int32 → Int32 → Int32 → Int32 → Int32 → Int32 → Int32 → xH → Option xH} (hk103 : ∀ {h : xH} {S : mS} {x1 : Int32} {x2 : Int32} {x3 : Int32} {x4 : Int32} {x5 : Int32} {x6 : Int32} {x7 : Int32} {x8 : Int32} {x9 : Int32} {r : mS}, RF h m S → k103 x1 x2 x3 x4 x5 x6 x7 x8 x9 S = some r → EX (f103 (some m) x1 x2 x3 x4 x5 x6 x7 x8 x9 h) (fun z => z) (QS m h r)) {h : xH} {S : mS} {x1 : Int32} {x2 : Int32} {x3 : Int32} {x4 : Int32} {x5 : Int32} {x6 : Int32} {x7 : Int32} {x8 : Int32} {x9 : Int32} {s0 : Int32} {r : mS} (H : RF h m S) (hf : gj211_133 k103 x1 x2 x3 x4 x5 x6 x7 x8 x9 s0 S = some r) : EX (j211_133 f103 (some m) x1 x2 x3 x4 x5 x6 x7 x8 x9 s0 h) (fun z => z) (QS m h r) := by
  have F := FM.rfl' (m := m) (h := h)
  unfold gj211_133 at hf
  unfold j211_133
  exact EX.uS F (gl211_138_ok (k103 := k103) (f103 := f103) hk103 xFuel H hf)
theorem gj211_117_ok {m : Nat} {k103 : Int32 → Int32 → Int32 → Int32 → Int32 → Int32 → Int32 → Int32 → Int32 → mS → Option mS} {f103 : Option Nat → Int32 → Int32 → Int32 → Int32 → Int32 → Int32 → Int32 → Int32 → Int32 → xH → Option xH} (hk103 : ∀ {h : xH} {S : mS} {x1 : Int32} {x2 : Int32} {x3 : Int32} {x4 : Int32} {x5 : Int32} {x6 : Int32} {x7 : Int32} {x8 : Int32} {x9 : Int32} {r : mS}, RF h m S → k103 x1 x2 x3 x4 x5 x6 x7 x8 x9 S = some r → EX (f103 (some m) x1 x2 x3 x4 x5 x6 x7 x8 x9 h) (fun z => z) (QS m h r)) {h : xH} {S : mS} {x1 : Int32} {x2 : Int32} {x3 : Int32} {x4 : Int32} {x5 : Int32} {x6 : Int32} {x7 : Int32} {x8 : Int32} {x9 : Int32} {r : mS} (H : RF h m S) (hf : gj211_117 k103 x1 x2 x3 x4 x5 x6 x7 x8 x9 S = some r) : EX (j211_117 f103 (some m) x1 x2 x3 x4 x5 x6 x7 x8 x9 h) (fun z => z) (QS m h r) := by
  have F := FM.rfl' (m := m) (h := h)
  unfold gj211_117 at hf
  unfold j211_117
  have Hc_ := H.cv
  obtain ⟨S_2, eS_2, hf⟩ := x_bind hf
  obtain ⟨h_1, eh_1, H, F_⟩ := g197_ok H eS_2
  refine EX.bd Hc_ ?_
  refine EX.bd eh_1 ?_
  replace F := F.tr F_
  by_cases c_3 : x9 = 0
  · replace hf := x_pos c_3 hf
    refine EX.pos c_3 ?_
    exact EX.uS F (gj211_133_ok (k103 := k103) (f103 := f103) hk103 H hf)
  · replace hf := x_neg c_3 hf
    refine EX.neg c_3 ?_
    exact EX.uS F (gj211_133_ok (k103 := k103) (f103 := f103) hk103 H hf)
theorem gl211_103_ok {m : Nat} : ∀ (n : Nat) {h : xH} {S : mS} {x1 : Int32} {x2 : Int32} {x3 : Int32} {x4 : Int32} {x5 : Int32} {x6 : Int32} {x7 : Int32} {x8 : Int32} {x9 : Int32} {r : mS} (H : RF h m S), gl211_103 n x1 x2 x3 x4 x5 x6 x7 x8 x9 S = some r → EX (l211_103 n (some m) x1 x2 x3 x4 x5 x6 x7 x8 x9 h) (fun z => z) (QS m h r) := by
  intro n
  induction n with
  | zero => intros; rename_i hf; cases hf
  | succ n ih =>
    intro h S x1 x2 x3 x4 x5 x6 x7 x8 x9 r H hf
    have F := FM.rfl' (m := m) (h := h)
    replace hf : ((if x9 = 0 then (if (S.1 63) ≤ x8 then some S else gj211_117 (gl211_103 n) x1 x2 x3 x4 x5 x6 x7 x8 x9 S) else gj211_117 (gl211_103 n) x1 x2 x3 x4 x5 x6 x7 x8 x9 S)) = some r := hf
    unfold l211_103
    by_cases c_1 : x9 = 0
    · replace hf := x_pos c_1 hf
      refine EX.pos c_1 ?_
      refine EX.bd (H.gI 63) ?_
      by_cases c_2 : (S.1 63) ≤ x8
      · replace hf := x_pos c_2 hf
        refine EX.pos c_2 ?_
        obtain rfl := Option.some.inj hf
        exact ⟨_, rfl, H, F⟩
      · replace hf := x_neg c_2 hf
        refine EX.neg c_2 ?_
        exact EX.uS F (gj211_117_ok (k103 := (gl211_103 n)) (f103 := (l211_103 n)) ih H hf)
    · replace hf := x_neg c_1 hf
      refine EX.neg c_1 ?_
      exact EX.uS F (gj211_117_ok (k103 := (gl211_103 n)) (f103 := (l211_103 n)) ih H hf)
theorem gj211_69_ok {m : Nat} {h : xH} {S : mS} {x1 : Int32} {x2 : Int32} {x3 : Int32} {x4 : Int32} {x5 : Int32} {x6 : Int32} {s0 : Int32} {r : mS} (H : RF h m S) (hf : gj211_69 x1 x2 x3 x4 x5 x6 s0 S = some r) : EX (j211_69 (some m) x1 x2 x3 x4 x5 x6 s0 h) (fun z => z) (QS m h r) := by
  have F := FM.rfl' (m := m) (h := h)
  unfold gj211_69 at hf
  unfold j211_69
  have Hc_ := H.cv
  obtain ⟨S_2, eS_2, hf⟩ := x_bind hf
  obtain ⟨h_1, eh_1, H, F_⟩ := g210_ok H eS_2
  refine EX.bd Hc_ ?_
  refine EX.bd eh_1 ?_
  replace F := F.tr F_
  refine EX.bd (H.gI 48) ?_
  refine EX.bd (H.gR 65) ?_
  obtain ⟨v_3, ev_3, hf⟩ := x_bind hf
  refine EX.bd (H.aI (by decide) ev_3) ?_
  obtain ⟨S_4, eS_4, hf⟩ := x_bind hf
  obtain ⟨h_5, eh_5, H, F_⟩ := H.pF 48 (xfit_int _) eS_4
  refine EX.bd eh_5 ?_
  replace F := F.tr F_
  exact EX.uS F (gl211_103_ok xFuel H hf)
theorem gj211_42_ok {m : Nat} {h : xH} {S : mS} {x1 : Int32} {x2 : Int32} {x3 : Int32} {x4 : Int32} {x5 : Int32} {s0 : Int32} {r : mS} (H : RF h m S) (hf : gj211_42 x1 x2 x3 x4 x5 s0 S = some r) : EX (j211_42 (some m) x1 x2 x3 x4 x5 s0 h) (fun z => z) (QS m h r) := by
  have F := FM.rfl' (m := m) (h := h)
  unfold gj211_42 at hf
  unfold j211_42
  by_cases c_1 : x5 = 0
  · replace hf := x_pos c_1 hf
    refine EX.pos c_1 ?_
    refine EX.bd (H.gR 16) ?_
    obtain ⟨v_2, ev_2, hf⟩ := x_bind hf
    refine EX.bd (H.aI (by decide) ev_2) ?_
    by_cases c_3 : v_2 ≤ 1
    · replace hf := x_pos c_3 hf
      refine EX.pos c_3 ?_
      exact EX.uS F (gj211_69_ok H hf)
    · replace hf := x_neg c_3 hf
      refine EX.neg c_3 ?_
      exact EX.uS F (gj211_69_ok H hf)
  · replace hf := x_neg c_1 hf
    refine EX.neg c_1 ?_
    exact EX.uS F (gj211_69_ok H hf)
theorem gj211_21_ok {m : Nat} {h : xH} {S : mS} {x1 : Int32} {x2 : Int32} {x3 : Int32} {x4 : Int32} {s0 : Int32} {r : mS} (H : RF h m S) (hf : gj211_21 x1 x2 x3 x4 s0 S = some r) : EX (j211_21 (some m) x1 x2 x3 x4 s0 h) (fun z => z) (QS m h r) := by
  have F := FM.rfl' (m := m) (h := h)
  unfold gj211_21 at hf
  unfold j211_21
  by_cases c_1 : s0 = 0
  · replace hf := x_pos c_1 hf
    refine EX.pos c_1 ?_
    exact EX.uS F (gj211_42_ok H hf)
  · replace hf := x_neg c_1 hf
    refine EX.neg c_1 ?_
    refine EX.bd (H.gR 17) ?_
    obtain ⟨v_2, ev_2, hf⟩ := x_bind hf
    refine EX.bd (H.aI (by decide) ev_2) ?_
    exact EX.uS F (gj211_42_ok H hf)
theorem g211_ok {h : xH} {m : Nat} {S : mS} {x1 : Int32} {x2 : Int32} {x3 : Int32} {x4 : Int32} {r : mS} (H : RF h m S) (hf : g211 x1 x2 x3 x4 S = some r) : EX (fn211 (some m) x1 x2 x3 x4 h) (fun z => z) (QS m h r) := by
  have F := FM.rfl' (m := m) (h := h)
  unfold g211 at hf
  unfold fn211
  have Hc_ := H.cv
  obtain ⟨S_2, eS_2, hf⟩ := x_bind hf
  obtain ⟨h_1, eh_1, H, F_⟩ := g207_ok H eS_2
  refine EX.bd Hc_ ?_
  refine EX.bd eh_1 ?_
  replace F := F.tr F_
  refine EX.bd (H.gR 16) ?_
  obtain ⟨v_3, ev_3, hf⟩ := x_bind hf
  refine EX.bd (H.aI (by decide) ev_3) ?_
  by_cases c_4 : v_3 = 1
  · replace hf := x_pos c_4 hf
    refine EX.pos c_4 ?_
    exact EX.uS F (gj211_21_ok H hf)
  · replace hf := x_neg c_4 hf
    refine EX.neg c_4 ?_
    exact EX.uS F (gj211_21_ok H hf)
end
section
theorem gj212_183_ok {m : Nat} {k21 : Int32 → Int32 → mS → Option mS} {f21 : Option Nat → Int32 → Int32 → xH → Option xH} (hk21 : ∀ {h : xH} {S : mS} {x1 : Int32} {x2 : Int32} {r : mS}, RF h m S → k21 x1 x2 S = some r → EX (f21 (some m) x1 x2 h) (fun z => z) (QS m h r)) {h : xH} {S : mS} {x1 : Int32} {x2 : Int32} {x3 : Int32} {x4 : Int32} {r : mS} (H : RF h m S) (hf : gj212_183 k21 x1 x2 x3 x4 S = some r) : EX (j212_183 f21 (some m) x1 x2 x3 x4 h) (fun z => z) (QS m h r) := by
  have F := FM.rfl' (m := m) (h := h)
  unfold gj212_183 at hf
  unfold j212_183
  exact EX.uS F (hk21 H hf)
theorem gj212_127_ok {m : Nat} {k21 : Int32 → Int32 → mS → Option mS} {f21 : Option Nat → Int32 → Int32 → xH → Option xH} (hk21 : ∀ {h : xH} {S : mS} {x1 : Int32} {x2 : Int32} {r : mS}, RF h m S → k21 x1 x2 S = some r → EX (f21 (some m) x1 x2 h) (fun z => z) (QS m h r)) {h : xH} {S : mS} {x1 : Int32} {x2 : Int32} {x3 : Int32} {x4 : Int32} {x5 : Int32} {x6 : Int32} {s0 : Nat} {s1 : Int32} {s2 : Int32} {r : mS} (H : RF h m S) (ts0 : mQ s0) (hf : gj212_127 k21 x1 x2 x3 x4 x5 x6 s0 s1 s2 S = some r) : EX (j212_127 f21 (some m) x1 x2 x3 x4 x5 x6 (some (m + mO s0)) s1 s2 h) (fun z => z) (QS m h r) := by
  have F := FM.rfl' (m := m) (h := h)
  unfold gj212_127 at hf
  unfold j212_127
  obtain ⟨S_1, eS_1, hf⟩ := x_bind hf
  obtain ⟨h_2, eh_2, H, F_⟩ := H.aS ts0 eS_1
  refine EX.bd eh_2 ?_
  replace F := F.tr F_
  refine EX.bd (H.gR 70) ?_
  obtain ⟨S_3, eS_3, hf⟩ := x_bind hf
  obtain ⟨h_4, eh_4, H, F_⟩ := H.aS (by decide) eS_3
  refine EX.bd eh_4 ?_
  replace F := F.tr F_
  exact EX.uS F (gj212_183_ok (k21 := k21) (f21 := f21) hk21 H hf)
theorem gj212_60_ok {m : Nat} {k21 : Int32 → Int32 → mS → Option mS} {f21 : Option Nat → Int32 → Int32 → xH → Option xH} (hk21 : ∀ {h : xH} {S : mS} {x1 : Int32} {x2 : Int32} {r : mS}, RF h m S → k21 x1 x2 S = some r → EX (f21 (some m) x1 x2 h) (fun z => z) (QS m h r)) {h : xH} {S : mS} {x1 : Int32} {x2 : Int32} {x3 : Int32} {x4 : Int32} {r : mS} (H : RF h m S) (hf : gj212_60 k21 x1 x2 x3 x4 S = some r) : EX (j212_60 f21 (some m) x1 x2 x3 x4 h) (fun z => z) (QS m h r) := by
  have F := FM.rfl' (m := m) (h := h)
  unfold gj212_60 at hf
  unfold j212_60
  exact EX.uS F (gj212_183_ok (k21 := k21) (f21 := f21) hk21 H hf)
theorem gl212_21_ok {m : Nat} : ∀ (n : Nat) {h : xH} {S : mS} {x1 : Int32} {x2 : Int32} {r : mS} (H : RF h m S), gl212_21 n x1 x2 S = some r → EX (l212_21 n (some m) x1 x2 h) (fun z => z) (QS m h r) := by
  intro n
  induction n with
  | zero => intros; rename_i hf; cases hf
  | succ n ih =>
    intro h S x1 x2 r H hf
    have F := FM.rfl' (m := m) (h := h)
    replace hf : ((if x2 ≤ 0 then some S else (sLd S 69 (x2 - 1)).bind fun v_2 => (sLd S 70 (x2 - 1)).bind fun v_3 => (if v_2 = (-1) then gj212_60 (gl212_21 n) x1 x2 v_2 v_3 S else (sLd S 14 v_2).bind fun v_5 => (if v_3 = v_5 then gj212_60 (gl212_21 n) x1 x2 v_2 v_3 S else (sLd S 70 (x2 - 1)).bind fun v_7 => (sSt S 70 (x2 - 1) (v_7 + 1)).bind fun S_8 => (sLd S_8 16 ((24 * v_2) + v_3)).bind fun v_10 => (if v_10 = 7 then (g156 v_2 S_8).bind fun r_13 => (if r_13.1 = (-1) then gj212_127 (gl212_21 n) x1 x2 v_2 v_3 v_10 r_13.1 69 x2 (-1) r_13.2 else (g160 r_13.1 r_13.2).bind fun r_16 => gj212_127 (gl212_21 n) x1 x2 v_2 v_3 v_10 r_13.1 69 x2 r_16.1 r_16.2) else (if 1 < v_10 then gj212_183 (gl212_21 n) x1 x2 v_2 v_3 S_8 else (sSt S_8 66 (S_8.1 68) v_2).bind fun S_18 => (sSt S_18 67 (S_18.1 68) ((24 * v_2) + v_3)).bind fun S_20 => (some (sPut S_20 68 ((S_20.1 68) + 1))).bind fun S_22 => gj212_183 (gl212_21 n) x1 x2 v_2 v_3 S_22)))))) = some r := hf
    unfold l212_21
    by_cases c_1 : x2 ≤ 0
    · replace hf := x_pos c_1 hf
      refine EX.pos c_1 ?_
      obtain rfl := Option.some.inj hf
      exact ⟨_, rfl, H, F⟩
    · replace hf := x_neg c_1 hf
      refine EX.neg c_1 ?_
      refine EX.bd (H.gR 69) ?_
      obtain ⟨v_2, ev_2, hf⟩ := x_bind hf
      refine EX.bd (H.aI (by decide) ev_2) ?_
      refine EX.bd (H.gR 70) ?_
      obtain ⟨v_3, ev_3, hf⟩ := x_bind hf
      refine EX.bd (H.aI (by decide) ev_3) ?_
      by_cases c_4 : v_2 = (-1)
      · replace hf := x_pos c_4 hf
        refine EX.pos c_4 ?_
        exact EX.uS F (gj212_60_ok (k21 := (gl212_21 n)) (f21 := (l212_21 n)) ih H hf)
      · replace hf := x_neg c_4 hf
        refine EX.neg c_4 ?_
        refine EX.bd (H.gR 14) ?_
        obtain ⟨v_5, ev_5, hf⟩ := x_bind hf
        refine EX.bd (H.aI (by decide) ev_5) ?_
        by_cases c_6 : v_3 = v_5
        · replace hf := x_pos c_6 hf
          refine EX.pos c_6 ?_
          exact EX.uS F (gj212_60_ok (k21 := (gl212_21 n)) (f21 := (l212_21 n)) ih H hf)
        · replace hf := x_neg c_6 hf
          refine EX.neg c_6 ?_
          refine EX.bd (H.gR 70) ?_
          obtain ⟨v_7, ev_7, hf⟩ := x_bind hf
          refine EX.bd (H.aI (by decide) ev_7) ?_
          obtain ⟨S_8, eS_8, hf⟩ := x_bind hf
          obtain ⟨h_9, eh_9, H, F_⟩ := H.aS (by decide) eS_8
          refine EX.bd eh_9 ?_
          replace F := F.tr F_
          refine EX.bd (H.gR 16) ?_
          obtain ⟨v_10, ev_10, hf⟩ := x_bind hf
          refine EX.bd (H.aI (by decide) ev_10) ?_
          by_cases c_11 : v_10 = 7
          · replace hf := x_pos c_11 hf
            refine EX.pos c_11 ?_
            have Hc_ := H.cv
            obtain ⟨r_13, er_13, hf⟩ := x_bind hf
            obtain ⟨h_12, eh_12, H, F_⟩ := g156_ok H er_13
            refine EX.bd Hc_ ?_
            refine EX.bd eh_12 ?_
            dsimp only
            replace F := F.tr F_
            refine EX.bd (H.gR 69) ?_
            by_cases c_14 : r_13.1 = (-1)
            · replace hf := x_pos c_14 hf
              refine EX.pos c_14 ?_
              exact EX.uS F (gj212_127_ok (k21 := (gl212_21 n)) (f21 := (l212_21 n)) ih H (by decide) hf)
            · replace hf := x_neg c_14 hf
              refine EX.neg c_14 ?_
              have Hc_ := H.cv
              obtain ⟨r_16, er_16, hf⟩ := x_bind hf
              obtain ⟨h_15, eh_15, H, F_⟩ := g160_ok H er_16
              refine EX.bd Hc_ ?_
              refine EX.bd eh_15 ?_
              dsimp only
              replace F := F.tr F_
              exact EX.uS F (gj212_127_ok (k21 := (gl212_21 n)) (f21 := (l212_21 n)) ih H (by decide) hf)
          · replace hf := x_neg c_11 hf
            refine EX.neg c_11 ?_
            by_cases c_17 : 1 < v_10
            · replace hf := x_pos c_17 hf
              refine EX.pos c_17 ?_
              exact EX.uS F (gj212_183_ok (k21 := (gl212_21 n)) (f21 := (l212_21 n)) ih H hf)
            · replace hf := x_neg c_17 hf
              refine EX.neg c_17 ?_
              refine EX.bd (H.gR 66) ?_
              refine EX.bd (H.gI 68) ?_
              obtain ⟨S_18, eS_18, hf⟩ := x_bind hf
              obtain ⟨h_19, eh_19, H, F_⟩ := H.aS (by decide) eS_18
              refine EX.bd eh_19 ?_
              replace F := F.tr F_
              refine EX.bd (H.gR 67) ?_
              refine EX.bd (H.gI 68) ?_
              obtain ⟨S_20, eS_20, hf⟩ := x_bind hf
              obtain ⟨h_21, eh_21, H, F_⟩ := H.aS (by decide) eS_20
              refine EX.bd eh_21 ?_
              replace F := F.tr F_
              refine EX.bd (H.gI 68) ?_
              obtain ⟨S_22, eS_22, hf⟩ := x_bind hf
              obtain ⟨h_23, eh_23, H, F_⟩ := H.pF 68 (xfit_int _) eS_22
              refine EX.bd eh_23 ?_
              replace F := F.tr F_
              exact EX.uS F (gj212_183_ok (k21 := (gl212_21 n)) (f21 := (l212_21 n)) ih H hf)
theorem g212_ok {h : xH} {m : Nat} {S : mS} {x1 : Int32} {r : mS} (H : RF h m S) (hf : g212 x1 S = some r) : EX (fn212 (some m) x1 h) (fun z => z) (QS m h r) := by
  have F := FM.rfl' (m := m) (h := h)
  unfold g212 at hf
  unfold fn212
  obtain ⟨S_1, eS_1, hf⟩ := x_bind hf
  obtain ⟨h_2, eh_2, H, F_⟩ := H.pF 68 (xfit_int _) eS_1
  refine EX.bd eh_2 ?_
  replace F := F.tr F_
  refine EX.bd (H.gR 69) ?_
  obtain ⟨S_3, eS_3, hf⟩ := x_bind hf
  obtain ⟨h_4, eh_4, H, F_⟩ := H.aS (by decide) eS_3
  refine EX.bd eh_4 ?_
  replace F := F.tr F_
  refine EX.bd (H.gR 70) ?_
  obtain ⟨S_5, eS_5, hf⟩ := x_bind hf
  obtain ⟨h_6, eh_6, H, F_⟩ := H.aS (by decide) eS_5
  refine EX.bd eh_6 ?_
  replace F := F.tr F_
  exact EX.uS F (gl212_21_ok xFuel H hf)
end
