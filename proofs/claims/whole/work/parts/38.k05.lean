section
theorem gj213_69_ok {m : Nat} {k6 : Int32 → Int32 → Int32 → Int32 → Int32 → mS → Option mS} {f6 : Option Nat → Int32 → Int32 → Int32 → Int32 → Int32 → xH → Option xH} (hk6 : ∀ {h : xH} {S : mS} {x1 : Int32} {x2 : Int32} {x3 : Int32} {x4 : Int32} {x5 : Int32} {r : mS}, RF h m S → k6 x1 x2 x3 x4 x5 S = some r → EX (f6 (some m) x1 x2 x3 x4 x5 h) (fun z => z) (QS m h r)) {k16 : Int32 → Int32 → Int32 → Int32 → Int32 → Int32 → mS → Option mS} {f16 : Option Nat → Int32 → Int32 → Int32 → Int32 → Int32 → Int32 → xH → Option xH} (hk16 : ∀ {h : xH} {S : mS} {x1 : Int32} {x2 : Int32} {x3 : Int32} {x4 : Int32} {x5 : Int32} {x6 : Int32} {r : mS}, RF h m S → k16 x1 x2 x3 x4 x5 x6 S = some r → EX (f16 (some m) x1 x2 x3 x4 x5 x6 h) (fun z => z) (QS m h r)) {h : xH} {S : mS} {x1 : Int32} {x2 : Int32} {x3 : Int32} {x4 : Int32} {x5 : Int32} {x6 : Int32} {x7 : Int32} {r : mS} (H : RF h m S) (hf : gj213_69 k6 k16 x1 x2 x3 x4 x5 x6 x7 S = some r) : EX (j213_69 f6 f16 (some m) x1 x2 x3 x4 x5 x6 x7 h) (fun z => z) (QS m h r) := by
  have F := FM.rfl' (m := m) (h := h)
  unfold gj213_69 at hf
  unfold j213_69
  exact EX.uS F (hk16 H hf)
theorem gj213_57_ok {m : Nat} {k6 : Int32 → Int32 → Int32 → Int32 → Int32 → mS → Option mS} {f6 : Option Nat → Int32 → Int32 → Int32 → Int32 → Int32 → xH → Option xH} (hk6 : ∀ {h : xH} {S : mS} {x1 : Int32} {x2 : Int32} {x3 : Int32} {x4 : Int32} {x5 : Int32} {r : mS}, RF h m S → k6 x1 x2 x3 x4 x5 S = some r → EX (f6 (some m) x1 x2 x3 x4 x5 h) (fun z => z) (QS m h r)) {k16 : Int32 → Int32 → Int32 → Int32 → Int32 → Int32 → mS → Option mS} {f16 : Option Nat → Int32 → Int32 → Int32 → Int32 → Int32 → Int32 → xH → Option xH} (hk16 : ∀ {h : xH} {S : mS} {x1 : Int32} {x2 : Int32} {x3 : Int32} {x4 : Int32} {x5 : Int32} {x6 : Int32} {r : mS}, RF h m S → k16 x1 x2 x3 x4 x5 x6 S = some r → EX (f16 (some m) x1 x2 x3 x4 x5 x6 h) (fun z => z) (QS m h r)) {h : xH} {S : mS} {x1 : Int32} {x2 : Int32} {x3 : Int32} {x4 : Int32} {x5 : Int32} {x6 : Int32} {x7 : Int32} {r : mS} (H : RF h m S) (hf : gj213_57 k6 k16 x1 x2 x3 x4 x5 x6 x7 S = some r) : EX (j213_57 f6 f16 (some m) x1 x2 x3 x4 x5 x6 x7 h) (fun z => z) (QS m h r) := by
  have F := FM.rfl' (m := m) (h := h)
  unfold gj213_57 at hf
  unfold j213_57
  have Hc_ := H.cv
  obtain ⟨S_2, eS_2, hf⟩ := x_bind hf
  obtain ⟨h_1, eh_1, H, F_⟩ := g211_ok H eS_2
  refine EX.bd Hc_ ?_
  refine EX.bd eh_1 ?_
  replace F := F.tr F_
  exact EX.uS F (gj213_69_ok (k6 := k6) (f6 := f6) hk6 (k16 := k16) (f16 := f16) hk16 H hf)
theorem gl213_16_ok {m : Nat} {k6 : Int32 → Int32 → Int32 → Int32 → Int32 → mS → Option mS} {f6 : Option Nat → Int32 → Int32 → Int32 → Int32 → Int32 → xH → Option xH} (hk6 : ∀ {h : xH} {S : mS} {x1 : Int32} {x2 : Int32} {x3 : Int32} {x4 : Int32} {x5 : Int32} {r : mS}, RF h m S → k6 x1 x2 x3 x4 x5 S = some r → EX (f6 (some m) x1 x2 x3 x4 x5 h) (fun z => z) (QS m h r)) : ∀ (n : Nat) {h : xH} {S : mS} {x1 : Int32} {x2 : Int32} {x3 : Int32} {x4 : Int32} {x5 : Int32} {x6 : Int32} {r : mS} (H : RF h m S), gl213_16 k6 n x1 x2 x3 x4 x5 x6 S = some r → EX (l213_16 f6 n (some m) x1 x2 x3 x4 x5 x6 h) (fun z => z) (QS m h r) := by
  intro n
  induction n with
  | zero => intros; rename_i hf; cases hf
  | succ n ih =>
    intro h S x1 x2 x3 x4 x5 x6 r H hf
    have F := FM.rfl' (m := m) (h := h)
    replace hf : ((sLd S 14 x1).bind fun v_1 => (if v_1 ≤ x6 then k6 x1 x2 x3 x4 (x5 + 1) S else (sLd S 16 ((24 * x1) + x6)).bind fun v_3 => (if v_3 = x5 then (if x4 = 0 then (g199  S).bind fun S_7 => gj213_57 k6 (gl213_16 k6 n) x1 x2 x3 x4 x5 x6 ((24 * x1) + x6) S_7 else gj213_57 k6 (gl213_16 k6 n) x1 x2 x3 x4 x5 x6 ((24 * x1) + x6) S) else gj213_69 k6 (gl213_16 k6 n) x1 x2 x3 x4 x5 x6 ((24 * x1) + x6) S))) = some r := hf
    unfold l213_16
    refine EX.bd (H.gR 14) ?_
    obtain ⟨v_1, ev_1, hf⟩ := x_bind hf
    refine EX.bd (H.aI (by decide) ev_1) ?_
    by_cases c_2 : v_1 ≤ x6
    · replace hf := x_pos c_2 hf
      refine EX.pos c_2 ?_
      exact EX.uS F (hk6 H hf)
    · replace hf := x_neg c_2 hf
      refine EX.neg c_2 ?_
      refine EX.bd (H.gR 16) ?_
      obtain ⟨v_3, ev_3, hf⟩ := x_bind hf
      refine EX.bd (H.aI (by decide) ev_3) ?_
      by_cases c_4 : v_3 = x5
      · replace hf := x_pos c_4 hf
        refine EX.pos c_4 ?_
        by_cases c_5 : x4 = 0
        · replace hf := x_pos c_5 hf
          refine EX.pos c_5 ?_
          have Hc_ := H.cv
          obtain ⟨S_7, eS_7, hf⟩ := x_bind hf
          obtain ⟨h_6, eh_6, H, F_⟩ := g199_ok H eS_7
          refine EX.bd Hc_ ?_
          refine EX.bd eh_6 ?_
          replace F := F.tr F_
          exact EX.uS F (gj213_57_ok (k6 := k6) (f6 := f6) hk6 (k16 := (gl213_16 k6 n)) (f16 := (l213_16 f6 n)) ih H hf)
        · replace hf := x_neg c_5 hf
          refine EX.neg c_5 ?_
          exact EX.uS F (gj213_57_ok (k6 := k6) (f6 := f6) hk6 (k16 := (gl213_16 k6 n)) (f16 := (l213_16 f6 n)) ih H hf)
      · replace hf := x_neg c_4 hf
        refine EX.neg c_4 ?_
        exact EX.uS F (gj213_69_ok (k6 := k6) (f6 := f6) hk6 (k16 := (gl213_16 k6 n)) (f16 := (l213_16 f6 n)) ih H hf)
theorem gl213_6_ok {m : Nat} : ∀ (n : Nat) {h : xH} {S : mS} {x1 : Int32} {x2 : Int32} {x3 : Int32} {x4 : Int32} {x5 : Int32} {r : mS} (H : RF h m S), gl213_6 n x1 x2 x3 x4 x5 S = some r → EX (l213_6 n (some m) x1 x2 x3 x4 x5 h) (fun z => z) (QS m h r) := by
  intro n
  induction n with
  | zero => intros; rename_i hf; cases hf
  | succ n ih =>
    intro h S x1 x2 x3 x4 x5 r H hf
    have F := FM.rfl' (m := m) (h := h)
    replace hf : ((if 6 < x5 then some S else gl213_16 (gl213_6 n) xFuel x1 x2 x3 x4 x5 0 S)) = some r := hf
    unfold l213_6
    by_cases c_1 : 6 < x5
    · replace hf := x_pos c_1 hf
      refine EX.pos c_1 ?_
      obtain rfl := Option.some.inj hf
      exact ⟨_, rfl, H, F⟩
    · replace hf := x_neg c_1 hf
      refine EX.neg c_1 ?_
      exact EX.uS F (gl213_16_ok (k6 := (gl213_6 n)) (f6 := (l213_6 n)) ih xFuel H hf)
theorem g213_ok {h : xH} {m : Nat} {S : mS} {x1 : Int32} {x2 : Int32} {x3 : Int32} {r : mS} (H : RF h m S) (hf : g213 x1 x2 x3 S = some r) : EX (fn213 (some m) x1 x2 x3 h) (fun z => z) (QS m h r) := by
  have F := FM.rfl' (m := m) (h := h)
  unfold g213 at hf
  unfold fn213
  exact EX.uS F (gl213_6_ok xFuel H hf)
end
section
theorem gl214_366_ok {m : Nat} : ∀ (n : Nat) {h : xH} {S : mS} {x1 : Int32} {x2 : Int32} {x3 : Int32} {x4 : Int32} {x5 : Int32} {r : (Int32 × mS)} (H : RF h m S), gl214_366 n x1 x2 x3 x4 x5 S = some r → EX (l214_366 n (some m) x1 x2 x3 x4 x5 h) (fun z => (r.1, z)) (QS m h r.2) := by
  intro n
  induction n with
  | zero => intros; rename_i hf; cases hf
  | succ n ih =>
    intro h S x1 x2 x3 x4 x5 r H hf
    have F := FM.rfl' (m := m) (h := h)
    replace hf : ((if (S.1 59) ≤ x5 then (some (sPut S 56 (S.1 48))).bind fun S_2 => (some (sPut S_2 57 (S_2.1 49))).bind fun S_4 => some (S_4.1 55, S_4) else (sLd S 50 x5).bind fun v_6 => (sSt S 58 x5 v_6).bind fun S_7 => gl214_366 n x1 x2 x3 x4 (x5 + 1) S_7)) = some r := hf
    unfold l214_366
    refine EX.bd (H.gI 59) ?_
    by_cases c_1 : (S.1 59) ≤ x5
    · replace hf := x_pos c_1 hf
      refine EX.pos c_1 ?_
      refine EX.bd (H.gI 48) ?_
      obtain ⟨S_2, eS_2, hf⟩ := x_bind hf
      obtain ⟨h_3, eh_3, H, F_⟩ := H.pF 56 (xfit_int _) eS_2
      refine EX.bd eh_3 ?_
      replace F := F.tr F_
      refine EX.bd (H.gI 49) ?_
      obtain ⟨S_4, eS_4, hf⟩ := x_bind hf
      obtain ⟨h_5, eh_5, H, F_⟩ := H.pF 57 (xfit_int _) eS_4
      refine EX.bd eh_5 ?_
      replace F := F.tr F_
      refine EX.bd (H.gI 55) ?_
      obtain rfl := Option.some.inj hf
      exact ⟨_, rfl, H, F⟩
    · replace hf := x_neg c_1 hf
      refine EX.neg c_1 ?_
      refine EX.bd (H.gR 58) ?_
      refine EX.bd (H.gR 50) ?_
      obtain ⟨v_6, ev_6, hf⟩ := x_bind hf
      refine EX.bd (H.aI (by decide) ev_6) ?_
      obtain ⟨S_7, eS_7, hf⟩ := x_bind hf
      obtain ⟨h_8, eh_8, H, F_⟩ := H.aS (by decide) eS_7
      refine EX.bd eh_8 ?_
      replace F := F.tr F_
      exact EX.uS F (ih H hf)
theorem gl214_326_ok {m : Nat} : ∀ (n : Nat) {h : xH} {S : mS} {x1 : Int32} {x2 : Int32} {x3 : Int32} {x4 : Int32} {x5 : Int32} {r : (Int32 × mS)} (H : RF h m S), gl214_326 n x1 x2 x3 x4 x5 S = some r → EX (l214_326 n (some m) x1 x2 x3 x4 x5 h) (fun z => (r.1, z)) (QS m h r.2) := by
  intro n
  induction n with
  | zero => intros; rename_i hf; cases hf
  | succ n ih =>
    intro h S x1 x2 x3 x4 x5 r H hf
    have F := FM.rfl' (m := m) (h := h)
    replace hf : ((if (S.1 55) ≤ x5 then (some (sPut S 59 (S.1 51))).bind fun S_2 => gl214_366 xFuel x1 x2 x3 x4 0 S_2 else (sLd S 46 x5).bind fun v_4 => (sSt S 54 x5 v_4).bind fun S_5 => gl214_326 n x1 x2 x3 x4 (x5 + 1) S_5)) = some r := hf
    unfold l214_326
    refine EX.bd (H.gI 55) ?_
    by_cases c_1 : (S.1 55) ≤ x5
    · replace hf := x_pos c_1 hf
      refine EX.pos c_1 ?_
      refine EX.bd (H.gI 51) ?_
      obtain ⟨S_2, eS_2, hf⟩ := x_bind hf
      obtain ⟨h_3, eh_3, H, F_⟩ := H.pF 59 (xfit_int _) eS_2
      refine EX.bd eh_3 ?_
      replace F := F.tr F_
      exact EX.uS F (gl214_366_ok xFuel H hf)
    · replace hf := x_neg c_1 hf
      refine EX.neg c_1 ?_
      refine EX.bd (H.gR 54) ?_
      refine EX.bd (H.gR 46) ?_
      obtain ⟨v_4, ev_4, hf⟩ := x_bind hf
      refine EX.bd (H.aI (by decide) ev_4) ?_
      obtain ⟨S_5, eS_5, hf⟩ := x_bind hf
      obtain ⟨h_6, eh_6, H, F_⟩ := H.aS (by decide) eS_5
      refine EX.bd eh_6 ?_
      replace F := F.tr F_
      exact EX.uS F (ih H hf)
theorem gl214_286_ok {m : Nat} : ∀ (n : Nat) {h : xH} {S : mS} {x1 : Int32} {x2 : Int32} {x3 : Int32} {x4 : Int32} {x5 : Int32} {r : (Int32 × mS)} (H : RF h m S), gl214_286 n x1 x2 x3 x4 x5 S = some r → EX (l214_286 n (some m) x1 x2 x3 x4 x5 h) (fun z => (r.1, z)) (QS m h r.2) := by
  intro n
  induction n with
  | zero => intros; rename_i hf; cases hf
  | succ n ih =>
    intro h S x1 x2 x3 x4 x5 r H hf
    have F := FM.rfl' (m := m) (h := h)
    replace hf : ((if (S.1 53) ≤ x5 then (some (sPut S 55 (S.1 47))).bind fun S_2 => gl214_326 xFuel x1 x2 x3 x4 0 S_2 else (sLd S 44 x5).bind fun v_4 => (sSt S 52 x5 v_4).bind fun S_5 => gl214_286 n x1 x2 x3 x4 (x5 + 1) S_5)) = some r := hf
    unfold l214_286
    refine EX.bd (H.gI 53) ?_
    by_cases c_1 : (S.1 53) ≤ x5
    · replace hf := x_pos c_1 hf
      refine EX.pos c_1 ?_
      refine EX.bd (H.gI 47) ?_
      obtain ⟨S_2, eS_2, hf⟩ := x_bind hf
      obtain ⟨h_3, eh_3, H, F_⟩ := H.pF 55 (xfit_int _) eS_2
      refine EX.bd eh_3 ?_
      replace F := F.tr F_
      exact EX.uS F (gl214_326_ok xFuel H hf)
    · replace hf := x_neg c_1 hf
      refine EX.neg c_1 ?_
      refine EX.bd (H.gR 52) ?_
      refine EX.bd (H.gR 44) ?_
      obtain ⟨v_4, ev_4, hf⟩ := x_bind hf
      refine EX.bd (H.aI (by decide) ev_4) ?_
      obtain ⟨S_5, eS_5, hf⟩ := x_bind hf
      obtain ⟨h_6, eh_6, H, F_⟩ := H.aS (by decide) eS_5
      refine EX.bd eh_6 ?_
      replace F := F.tr F_
      exact EX.uS F (ih H hf)
theorem gj214_211_ok {m : Nat} {k193 : Int32 → Int32 → Int32 → Int32 → Int32 → mS → Option (Int32 × mS)} {f193 : Option Nat → Int32 → Int32 → Int32 → Int32 → Int32 → xH → Option (Int32 × xH)} (hk193 : ∀ {h : xH} {S : mS} {x1 : Int32} {x2 : Int32} {x3 : Int32} {x4 : Int32} {x5 : Int32} {r : (Int32 × mS)}, RF h m S → k193 x1 x2 x3 x4 x5 S = some r → EX (f193 (some m) x1 x2 x3 x4 x5 h) (fun z => (r.1, z)) (QS m h r.2)) {h : xH} {S : mS} {x1 : Int32} {x2 : Int32} {x3 : Int32} {x4 : Int32} {x5 : Int32} {r : (Int32 × mS)} (H : RF h m S) (hf : gj214_211 k193 x1 x2 x3 x4 x5 S = some r) : EX (j214_211 f193 (some m) x1 x2 x3 x4 x5 h) (fun z => (r.1, z)) (QS m h r.2) := by
  have F := FM.rfl' (m := m) (h := h)
  unfold gj214_211 at hf
  unfold j214_211
  have Hc_ := H.cv
  obtain ⟨S_2, eS_2, hf⟩ := x_bind hf
  obtain ⟨h_1, eh_1, H, F_⟩ := g197_ok H eS_2
  refine EX.bd Hc_ ?_
  refine EX.bd eh_1 ?_
  replace F := F.tr F_
  have Hc_ := H.cv
  obtain ⟨S_4, eS_4, hf⟩ := x_bind hf
  obtain ⟨h_3, eh_3, H, F_⟩ := g195_ok H eS_4
  refine EX.bd Hc_ ?_
  refine EX.bd eh_3 ?_
  replace F := F.tr F_
  have Hc_ := H.cv
  obtain ⟨S_6, eS_6, hf⟩ := x_bind hf
  obtain ⟨h_5, eh_5, H, F_⟩ := g196_ok H eS_6
  refine EX.bd Hc_ ?_
  refine EX.bd eh_5 ?_
  replace F := F.tr F_
  have Hc_ := H.cv
  obtain ⟨S_8, eS_8, hf⟩ := x_bind hf
  obtain ⟨h_7, eh_7, H, F_⟩ := g195_ok H eS_8
  refine EX.bd Hc_ ?_
  refine EX.bd eh_7 ?_
  replace F := F.tr F_
  have Hc_ := H.cv
  obtain ⟨S_10, eS_10, hf⟩ := x_bind hf
  obtain ⟨h_9, eh_9, H, F_⟩ := g195_ok H eS_10
  refine EX.bd Hc_ ?_
  refine EX.bd eh_9 ?_
  replace F := F.tr F_
  refine EX.bd (H.gR 50) ?_
  obtain ⟨v_11, ev_11, hf⟩ := x_bind hf
  refine EX.bd (H.aI (by decide) ev_11) ?_
  have Hc_ := H.cv
  obtain ⟨S_13, eS_13, hf⟩ := x_bind hf
  obtain ⟨h_12, eh_12, H, F_⟩ := g200_ok H eS_13
  refine EX.bd Hc_ ?_
  refine EX.bd eh_12 ?_
  replace F := F.tr F_
  have Hc_ := H.cv
  obtain ⟨S_15, eS_15, hf⟩ := x_bind hf
  obtain ⟨h_14, eh_14, H, F_⟩ := g198_ok H eS_15
  refine EX.bd Hc_ ?_
  refine EX.bd eh_14 ?_
  replace F := F.tr F_
  exact EX.uS F (hk193 H hf)
theorem gl214_193_ok {m : Nat} : ∀ (n : Nat) {h : xH} {S : mS} {x1 : Int32} {x2 : Int32} {x3 : Int32} {x4 : Int32} {x5 : Int32} {r : (Int32 × mS)} (H : RF h m S), gl214_193 n x1 x2 x3 x4 x5 S = some r → EX (l214_193 n (some m) x1 x2 x3 x4 x5 h) (fun z => (r.1, z)) (QS m h r.2) := by
  intro n
  induction n with
  | zero => intros; rename_i hf; cases hf
  | succ n ih =>
    intro h S x1 x2 x3 x4 x5 r H hf
    have F := FM.rfl' (m := m) (h := h)
    replace hf : ((if (S.1 51) ≤ x5 then (if (S.1 45) ≤ 4000 then (some (sPut S 53 (S.1 45))).bind fun S_3 => gl214_286 xFuel x1 x2 x3 x4 0 S_3 else some ((-3), S)) else (if x5 = 0 then (g199  S).bind fun S_7 => gj214_211 (gl214_193 n) x1 x2 x3 x4 x5 S_7 else gj214_211 (gl214_193 n) x1 x2 x3 x4 x5 S))) = some r := hf
    unfold l214_193
    refine EX.bd (H.gI 51) ?_
    by_cases c_1 : (S.1 51) ≤ x5
    · replace hf := x_pos c_1 hf
      refine EX.pos c_1 ?_
      refine EX.bd (H.gI 45) ?_
      by_cases c_2 : (S.1 45) ≤ 4000
      · replace hf := x_pos c_2 hf
        refine EX.pos c_2 ?_
        refine EX.bd (H.gI 45) ?_
        obtain ⟨S_3, eS_3, hf⟩ := x_bind hf
        obtain ⟨h_4, eh_4, H, F_⟩ := H.pF 53 (xfit_int _) eS_3
        refine EX.bd eh_4 ?_
        replace F := F.tr F_
        exact EX.uS F (gl214_286_ok xFuel H hf)
      · replace hf := x_neg c_2 hf
        refine EX.neg c_2 ?_
        obtain rfl := Option.some.inj hf
        exact ⟨_, rfl, H, F⟩
    · replace hf := x_neg c_1 hf
      refine EX.neg c_1 ?_
      by_cases c_5 : x5 = 0
      · replace hf := x_pos c_5 hf
        refine EX.pos c_5 ?_
        have Hc_ := H.cv
        obtain ⟨S_7, eS_7, hf⟩ := x_bind hf
        obtain ⟨h_6, eh_6, H, F_⟩ := g199_ok H eS_7
        refine EX.bd Hc_ ?_
        refine EX.bd eh_6 ?_
        replace F := F.tr F_
        exact EX.uS F (gj214_211_ok (k193 := (gl214_193 n)) (f193 := (l214_193 n)) ih H hf)
      · replace hf := x_neg c_5 hf
        refine EX.neg c_5 ?_
        exact EX.uS F (gj214_211_ok (k193 := (gl214_193 n)) (f193 := (l214_193 n)) ih H hf)
theorem gj214_190_ok {m : Nat} {h : xH} {S : mS} {x1 : Int32} {x2 : Int32} {x3 : Int32} {x4 : Int32} {x5 : Int32} {r : (Int32 × mS)} (H : RF h m S) (hf : gj214_190 x1 x2 x3 x4 x5 S = some r) : EX (j214_190 (some m) x1 x2 x3 x4 x5 h) (fun z => (r.1, z)) (QS m h r.2) := by
  have F := FM.rfl' (m := m) (h := h)
  unfold gj214_190 at hf
  unfold j214_190
  exact EX.uS F (gl214_193_ok xFuel H hf)
theorem gj214_187_ok {m : Nat} {h : xH} {S : mS} {x1 : Int32} {x2 : Int32} {x3 : Int32} {x4 : Int32} {x5 : Int32} {s1 : Int32} {s2 : Int32} {s3 : Int32} {r : (Int32 × mS)} (H : RF h m S) (hf : gj214_187 x1 x2 x3 x4 x5 s1 s2 s3 S = some r) : EX (j214_187 (some m) x1 x2 x3 x4 x5 (some m) s1 s2 s3 h) (fun z => (r.1, z)) (QS m h r.2) := by
  have F := FM.rfl' (m := m) (h := h)
  unfold gj214_187 at hf
  unfold j214_187
  have Hc_ := H.cv
  obtain ⟨S_2, eS_2, hf⟩ := x_bind hf
  obtain ⟨h_1, eh_1, H, F_⟩ := g213_ok H eS_2
  refine EX.bd Hc_ ?_
  refine EX.bd eh_1 ?_
  replace F := F.tr F_
  exact EX.uS F (gj214_190_ok H hf)
theorem gj214_157_ok {m : Nat} {h : xH} {S : mS} {x1 : Int32} {x2 : Int32} {x3 : Int32} {x4 : Int32} {x5 : Int32} {r : (Int32 × mS)} (H : RF h m S) (hf : gj214_157 x1 x2 x3 x4 x5 S = some r) : EX (j214_157 (some m) x1 x2 x3 x4 x5 h) (fun z => (r.1, z)) (QS m h r.2) := by
  have F := FM.rfl' (m := m) (h := h)
  unfold gj214_157 at hf
  unfold j214_157
  by_cases c_1 : x4 = (-1)
  · replace hf := x_pos c_1 hf
    refine EX.pos c_1 ?_
    exact EX.uS F (gj214_190_ok H hf)
  · replace hf := x_neg c_1 hf
    refine EX.neg c_1 ?_
    refine EX.bd (H.gI 45) ?_
    by_cases c_2 : 4000 < (S.1 45)
    · replace hf := x_pos c_2 hf
      refine EX.pos c_2 ?_
      exact EX.uS F (gj214_190_ok H hf)
    · replace hf := x_neg c_2 hf
      refine EX.neg c_2 ?_
      by_cases c_3 : x3 = 1
      · replace hf := x_pos c_3 hf
        refine EX.pos c_3 ?_
        exact EX.uS F (gj214_187_ok H hf)
      · replace hf := x_neg c_3 hf
        refine EX.neg c_3 ?_
        exact EX.uS F (gj214_187_ok H hf)
theorem gj214_148_ok {m : Nat} {k84 : Int32 → Int32 → Int32 → Int32 → Int32 → mS → Option (Int32 × mS)} {f84 : Option Nat → Int32 → Int32 → Int32 → Int32 → Int32 → xH → Option (Int32 × xH)} (hk84 : ∀ {h : xH} {S : mS} {x1 : Int32} {x2 : Int32} {x3 : Int32} {x4 : Int32} {x5 : Int32} {r : (Int32 × mS)}, RF h m S → k84 x1 x2 x3 x4 x5 S = some r → EX (f84 (some m) x1 x2 x3 x4 x5 h) (fun z => (r.1, z)) (QS m h r.2)) {h : xH} {S : mS} {x1 : Int32} {x2 : Int32} {x3 : Int32} {x4 : Int32} {x5 : Int32} {s1 : Int32} {s2 : Int32} {s3 : Int32} {s4 : Int32} {r : (Int32 × mS)} (H : RF h m S) (hf : gj214_148 k84 x1 x2 x3 x4 x5 s1 s2 s3 s4 S = some r) : EX (j214_148 f84 (some m) x1 x2 x3 x4 x5 (some m) s1 s2 s3 s4 h) (fun z => (r.1, z)) (QS m h r.2) := by
  have F := FM.rfl' (m := m) (h := h)
  unfold gj214_148 at hf
  unfold j214_148
  have Hc_ := H.cv
  obtain ⟨S_2, eS_2, hf⟩ := x_bind hf
  obtain ⟨h_1, eh_1, H, F_⟩ := g211_ok H eS_2
  refine EX.bd Hc_ ?_
  refine EX.bd eh_1 ?_
  replace F := F.tr F_
  exact EX.uS F (hk84 H hf)
theorem gj214_122_ok {m : Nat} {k84 : Int32 → Int32 → Int32 → Int32 → Int32 → mS → Option (Int32 × mS)} {f84 : Option Nat → Int32 → Int32 → Int32 → Int32 → Int32 → xH → Option (Int32 × xH)} (hk84 : ∀ {h : xH} {S : mS} {x1 : Int32} {x2 : Int32} {x3 : Int32} {x4 : Int32} {x5 : Int32} {r : (Int32 × mS)}, RF h m S → k84 x1 x2 x3 x4 x5 S = some r → EX (f84 (some m) x1 x2 x3 x4 x5 h) (fun z => (r.1, z)) (QS m h r.2)) {h : xH} {S : mS} {x1 : Int32} {x2 : Int32} {x3 : Int32} {x4 : Int32} {x5 : Int32} {r : (Int32 × mS)} (H : RF h m S) (hf : gj214_122 k84 x1 x2 x3 x4 x5 S = some r) : EX (j214_122 f84 (some m) x1 x2 x3 x4 x5 h) (fun z => (r.1, z)) (QS m h r.2) := by
  have F := FM.rfl' (m := m) (h := h)
  unfold gj214_122 at hf
  unfold j214_122
  refine EX.bd (H.gR 66) ?_
  obtain ⟨v_1, ev_1, hf⟩ := x_bind hf
  refine EX.bd (H.aI (by decide) ev_1) ?_
  refine EX.bd (H.gR 67) ?_
  obtain ⟨v_2, ev_2, hf⟩ := x_bind hf
  refine EX.bd (H.aI (by decide) ev_2) ?_
  by_cases c_3 : x3 = 1
  · replace hf := x_pos c_3 hf
    refine EX.pos c_3 ?_
    exact EX.uS F (gj214_148_ok (k84 := k84) (f84 := f84) hk84 H hf)
  · replace hf := x_neg c_3 hf
    refine EX.neg c_3 ?_
    exact EX.uS F (gj214_148_ok (k84 := k84) (f84 := f84) hk84 H hf)
theorem gl214_84_ok {m : Nat} : ∀ (n : Nat) {h : xH} {S : mS} {x1 : Int32} {x2 : Int32} {x3 : Int32} {x4 : Int32} {x5 : Int32} {r : (Int32 × mS)} (H : RF h m S), gl214_84 n x1 x2 x3 x4 x5 S = some r → EX (l214_84 n (some m) x1 x2 x3 x4 x5 h) (fun z => (r.1, z)) (QS m h r.2) := by
  intro n
  induction n with
  | zero => intros; rename_i hf; cases hf
  | succ n ih =>
    intro h S x1 x2 x3 x4 x5 r H hf
    have F := FM.rfl' (m := m) (h := h)
    replace hf : ((if (S.1 68) ≤ x5 then gj214_157 x1 x2 x3 x4 x5 S else (if 4000 < (S.1 45) then gj214_157 x1 x2 x3 x4 x5 S else (sLd S 67 x5).bind fun v_3 => (sLd S 23 v_3).bind fun v_4 => (if v_4 = 0 then (g199  S).bind fun S_7 => gj214_122 (gl214_84 n) x1 x2 x3 x4 x5 S_7 else gj214_122 (gl214_84 n) x1 x2 x3 x4 x5 S)))) = some r := hf
    unfold l214_84
    refine EX.bd (H.gI 68) ?_
    by_cases c_1 : (S.1 68) ≤ x5
    · replace hf := x_pos c_1 hf
      refine EX.pos c_1 ?_
      exact EX.uS F (gj214_157_ok H hf)
    · replace hf := x_neg c_1 hf
      refine EX.neg c_1 ?_
      refine EX.bd (H.gI 45) ?_
      by_cases c_2 : 4000 < (S.1 45)
      · replace hf := x_pos c_2 hf
        refine EX.pos c_2 ?_
        exact EX.uS F (gj214_157_ok H hf)
      · replace hf := x_neg c_2 hf
        refine EX.neg c_2 ?_
        refine EX.bd (H.gR 23) ?_
        refine EX.bd (H.gR 67) ?_
        obtain ⟨v_3, ev_3, hf⟩ := x_bind hf
        refine EX.bd (H.aI (by decide) ev_3) ?_
        obtain ⟨v_4, ev_4, hf⟩ := x_bind hf
        refine EX.bd (H.aZ (by decide) ev_4) ?_
        by_cases c_5 : v_4 = 0
        · replace hf := x_pos c_5 hf
          refine EX.pos c_5 ?_
          have Hc_ := H.cv
          obtain ⟨S_7, eS_7, hf⟩ := x_bind hf
          obtain ⟨h_6, eh_6, H, F_⟩ := g199_ok H eS_7
          refine EX.bd Hc_ ?_
          refine EX.bd eh_6 ?_
          replace F := F.tr F_
          exact EX.uS F (gj214_122_ok (k84 := (gl214_84 n)) (f84 := (l214_84 n)) ih H hf)
        · replace hf := x_neg c_5 hf
          refine EX.neg c_5 ?_
          exact EX.uS F (gj214_122_ok (k84 := (gl214_84 n)) (f84 := (l214_84 n)) ih H hf)
theorem gj214_28_ok {m : Nat} {h : xH} {S : mS} {x1 : Int32} {x2 : Int32} {x3 : Int32} {r : (Int32 × mS)} (H : RF h m S) (hf : gj214_28 x1 x2 x3 S = some r) : EX (j214_28 (some m) x1 x2 x3 h) (fun z => (r.1, z)) (QS m h r.2) := by
  have F := FM.rfl' (m := m) (h := h)
  unfold gj214_28 at hf
  unfold j214_28
  obtain rfl := Option.some.inj hf
  exact ⟨_, rfl, H, F⟩
theorem g214_ok {h : xH} {m : Nat} {S : mS} {x1 : Int32} {x2 : Int32} {x3 : Int32} {r : (Int32 × mS)} (H : RF h m S) (hf : g214 x1 x2 x3 S = some r) : EX (fn214 (some m) x1 x2 x3 h) (fun z => (r.1, z)) (QS m h r.2) := by
  have F := FM.rfl' (m := m) (h := h)
  unfold g214 at hf
  unfold fn214
  have Hc_ := H.cv
  obtain ⟨r_2, er_2, hf⟩ := x_bind hf
  obtain ⟨h_1, eh_1, H, F_⟩ := g148_ok H er_2
  refine EX.bd Hc_ ?_
  refine EX.bd eh_1 ?_
  dsimp only
  replace F := F.tr F_
  by_cases c_3 : r_2.1 = 0
  · replace hf := x_pos c_3 hf
    refine EX.pos c_3 ?_
    exact EX.uS F (gj214_28_ok H hf)
  · replace hf := x_neg c_3 hf
    refine EX.neg c_3 ?_
    obtain ⟨r_5, er_5, hf⟩ := x_bind hf
    obtain ⟨h_4, eh_4, H, F_⟩ := g141_ok H er_5
    refine EX.bd eh_4 ?_
    dsimp only
    replace F := F.tr F_
    by_cases c_6 : r_5.1 = 0
    · replace hf := x_pos c_6 hf
      refine EX.pos c_6 ?_
      exact EX.uS F (gj214_28_ok H hf)
    · replace hf := x_neg c_6 hf
      refine EX.neg c_6 ?_
      obtain ⟨r_8, er_8, hf⟩ := x_bind hf
      obtain ⟨h_7, eh_7, H, F_⟩ := g141_ok H er_8
      refine EX.bd eh_7 ?_
      dsimp only
      replace F := F.tr F_
      by_cases c_9 : r_8.1 = 0
      · replace hf := x_pos c_9 hf
        refine EX.pos c_9 ?_
        exact EX.uS F (gj214_28_ok H hf)
      · replace hf := x_neg c_9 hf
        refine EX.neg c_9 ?_
        obtain ⟨S_10, eS_10, hf⟩ := x_bind hf
        obtain ⟨h_11, eh_11, H, F_⟩ := H.pF 45 (xfit_int _) eS_10
        refine EX.bd eh_11 ?_
        replace F := F.tr F_
        obtain ⟨S_12, eS_12, hf⟩ := x_bind hf
        obtain ⟨h_13, eh_13, H, F_⟩ := H.pF 47 (xfit_int _) eS_12
        refine EX.bd eh_13 ?_
        replace F := F.tr F_
        obtain ⟨S_14, eS_14, hf⟩ := x_bind hf
        obtain ⟨h_15, eh_15, H, F_⟩ := H.pF 48 (xfit_int _) eS_14
        refine EX.bd eh_15 ?_
        replace F := F.tr F_
        obtain ⟨S_16, eS_16, hf⟩ := x_bind hf
        obtain ⟨h_17, eh_17, H, F_⟩ := H.pF 49 (xfit_int _) eS_16
        refine EX.bd eh_17 ?_
        replace F := F.tr F_
        obtain ⟨S_18, eS_18, hf⟩ := x_bind hf
        obtain ⟨h_19, eh_19, H, F_⟩ := H.pF 51 (xfit_int _) eS_18
        refine EX.bd eh_19 ?_
        replace F := F.tr F_
        have Hc_ := H.cv
        obtain ⟨S_21, eS_21, hf⟩ := x_bind hf
        obtain ⟨h_20, eh_20, H, F_⟩ := g197_ok H eS_21
        refine EX.bd Hc_ ?_
        refine EX.bd eh_20 ?_
        replace F := F.tr F_
        have Hc_ := H.cv
        obtain ⟨S_23, eS_23, hf⟩ := x_bind hf
        obtain ⟨h_22, eh_22, H, F_⟩ := g200_ok H eS_23
        refine EX.bd Hc_ ?_
        refine EX.bd eh_22 ?_
        replace F := F.tr F_
        have Hc_ := H.cv
        obtain ⟨S_25, eS_25, hf⟩ := x_bind hf
        obtain ⟨h_24, eh_24, H, F_⟩ := g198_ok H eS_25
        refine EX.bd Hc_ ?_
        refine EX.bd eh_24 ?_
        replace F := F.tr F_
        have Hc_ := H.cv
        obtain ⟨r_27, er_27, hf⟩ := x_bind hf
        obtain ⟨h_26, eh_26, H, F_⟩ := g160_ok H er_27
        refine EX.bd Hc_ ?_
        refine EX.bd eh_26 ?_
        dsimp only
        replace F := F.tr F_
        have Hc_ := H.cv
        obtain ⟨S_29, eS_29, hf⟩ := x_bind hf
        obtain ⟨h_28, eh_28, H, F_⟩ := g212_ok H eS_29
        refine EX.bd Hc_ ?_
        refine EX.bd eh_28 ?_
        replace F := F.tr F_
        exact EX.uS F (gl214_84_ok xFuel H hf)
end
section
theorem g215_ok {h : xH} {m : Nat} {S : mS} {x1 : Int32} {r : (Int32 × mS)} (H : RF h m S) (hf : g215 x1 S = some r) : EX (fn215 (some m) x1 h) (fun z => (r.1, z)) (QS m h r.2) := by
  have F := FM.rfl' (m := m) (h := h)
  unfold g215 at hf
  unfold fn215
  by_cases c_1 : x1 = 0
  · replace hf := x_pos c_1 hf
    refine EX.pos c_1 ?_
    refine EX.bd (H.gI 55) ?_
    obtain rfl := Option.some.inj hf
    exact ⟨_, rfl, H, F⟩
  · replace hf := x_neg c_1 hf
    refine EX.neg c_1 ?_
    by_cases c_2 : x1 = 1
    · replace hf := x_pos c_2 hf
      refine EX.pos c_2 ?_
      refine EX.bd (H.gI 53) ?_
      obtain rfl := Option.some.inj hf
      exact ⟨_, rfl, H, F⟩
    · replace hf := x_neg c_2 hf
      refine EX.neg c_2 ?_
      by_cases c_3 : x1 = 2
      · replace hf := x_pos c_3 hf
        refine EX.pos c_3 ?_
        refine EX.bd (H.gI 59) ?_
        obtain rfl := Option.some.inj hf
        exact ⟨_, rfl, H, F⟩
      · replace hf := x_neg c_3 hf
        refine EX.neg c_3 ?_
        by_cases c_4 : x1 = 3
        · replace hf := x_pos c_4 hf
          refine EX.pos c_4 ?_
          refine EX.bd (H.gI 56) ?_
          obtain rfl := Option.some.inj hf
          exact ⟨_, rfl, H, F⟩
        · replace hf := x_neg c_4 hf
          refine EX.neg c_4 ?_
          by_cases c_5 : x1 = 4
          · replace hf := x_pos c_5 hf
            refine EX.pos c_5 ?_
            refine EX.bd (H.gI 57) ?_
            obtain rfl := Option.some.inj hf
            exact ⟨_, rfl, H, F⟩
          · replace hf := x_neg c_5 hf
            refine EX.neg c_5 ?_
            obtain rfl := Option.some.inj hf
            exact ⟨_, rfl, H, F⟩
end
section
theorem gj216_24_ok {m : Nat} {h : xH} {S : mS} {x1 : Int32} {s0 : Int32} {r : (Int32 × mS)} (H : RF h m S) (hf : gj216_24 x1 s0 S = some r) : EX (j216_24 (some m) x1 s0 h) (fun z => (r.1, z)) (QS m h r.2) := by
  have F := FM.rfl' (m := m) (h := h)
  unfold gj216_24 at hf
  unfold j216_24
  obtain rfl := Option.some.inj hf
  exact ⟨_, rfl, H, F⟩
theorem g216_ok {h : xH} {m : Nat} {S : mS} {x1 : Int32} {r : (Int32 × mS)} (H : RF h m S) (hf : g216 x1 S = some r) : EX (fn216 (some m) x1 h) (fun z => (r.1, z)) (QS m h r.2) := by
  have F := FM.rfl' (m := m) (h := h)
  unfold g216 at hf
  unfold fn216
  refine EX.bd (H.gI 53) ?_
  obtain ⟨r_2, er_2, hf⟩ := x_bind hf
  obtain ⟨h_1, eh_1, H, F_⟩ := g141_ok H er_2
  refine EX.bd eh_1 ?_
  dsimp only
  replace F := F.tr F_
  by_cases c_3 : r_2.1 = 0
  · replace hf := x_pos c_3 hf
    refine EX.pos c_3 ?_
    exact EX.uS F (gj216_24_ok H hf)
  · replace hf := x_neg c_3 hf
    refine EX.neg c_3 ?_
    refine EX.bd (H.gR 52) ?_
    obtain ⟨v_4, ev_4, hf⟩ := x_bind hf
    refine EX.bd (H.aI (by decide) ev_4) ?_
    exact EX.uS F (gj216_24_ok H hf)
end
section
theorem gj217_24_ok {m : Nat} {h : xH} {S : mS} {x1 : Int32} {s0 : Int32} {r : (Int32 × mS)} (H : RF h m S) (hf : gj217_24 x1 s0 S = some r) : EX (j217_24 (some m) x1 s0 h) (fun z => (r.1, z)) (QS m h r.2) := by
  have F := FM.rfl' (m := m) (h := h)
  unfold gj217_24 at hf
  unfold j217_24
  obtain rfl := Option.some.inj hf
  exact ⟨_, rfl, H, F⟩
theorem g217_ok {h : xH} {m : Nat} {S : mS} {x1 : Int32} {r : (Int32 × mS)} (H : RF h m S) (hf : g217 x1 S = some r) : EX (fn217 (some m) x1 h) (fun z => (r.1, z)) (QS m h r.2) := by
  have F := FM.rfl' (m := m) (h := h)
  unfold g217 at hf
  unfold fn217
  refine EX.bd (H.gI 55) ?_
  obtain ⟨r_2, er_2, hf⟩ := x_bind hf
  obtain ⟨h_1, eh_1, H, F_⟩ := g141_ok H er_2
  refine EX.bd eh_1 ?_
  dsimp only
  replace F := F.tr F_
  by_cases c_3 : r_2.1 = 0
  · replace hf := x_pos c_3 hf
    refine EX.pos c_3 ?_
    exact EX.uS F (gj217_24_ok H hf)
  · replace hf := x_neg c_3 hf
    refine EX.neg c_3 ?_
    refine EX.bd (H.gR 54) ?_
    obtain ⟨v_4, ev_4, hf⟩ := x_bind hf
    refine EX.bd (H.aI (by decide) ev_4) ?_
    exact EX.uS F (gj217_24_ok H hf)
end
section
theorem gj218_24_ok {m : Nat} {h : xH} {S : mS} {x1 : Int32} {s0 : Int32} {r : (Int32 × mS)} (H : RF h m S) (hf : gj218_24 x1 s0 S = some r) : EX (j218_24 (some m) x1 s0 h) (fun z => (r.1, z)) (QS m h r.2) := by
  have F := FM.rfl' (m := m) (h := h)
  unfold gj218_24 at hf
  unfold j218_24
  obtain rfl := Option.some.inj hf
  exact ⟨_, rfl, H, F⟩
theorem g218_ok {h : xH} {m : Nat} {S : mS} {x1 : Int32} {r : (Int32 × mS)} (H : RF h m S) (hf : g218 x1 S = some r) : EX (fn218 (some m) x1 h) (fun z => (r.1, z)) (QS m h r.2) := by
  have F := FM.rfl' (m := m) (h := h)
  unfold g218 at hf
  unfold fn218
  refine EX.bd (H.gI 59) ?_
  obtain ⟨r_2, er_2, hf⟩ := x_bind hf
  obtain ⟨h_1, eh_1, H, F_⟩ := g141_ok H er_2
  refine EX.bd eh_1 ?_
  dsimp only
  replace F := F.tr F_
  by_cases c_3 : r_2.1 = 0
  · replace hf := x_pos c_3 hf
    refine EX.pos c_3 ?_
    exact EX.uS F (gj218_24_ok H hf)
  · replace hf := x_neg c_3 hf
    refine EX.neg c_3 ?_
    refine EX.bd (H.gR 58) ?_
    obtain ⟨v_4, ev_4, hf⟩ := x_bind hf
    refine EX.bd (H.aI (by decide) ev_4) ?_
    exact EX.uS F (gj218_24_ok H hf)
end
section
theorem g219_ok {h : xH} {m : Nat} {S : mS} {x1 : Int32} {x2 : Int32} {r : mS} (H : RF h m S) (hf : g219 x1 x2 S = some r) : EX (fn219 (some m) x1 x2 h) (fun z => z) (QS m h r) := by
  have F := FM.rfl' (m := m) (h := h)
  unfold g219 at hf
  unfold fn219
  refine EX.bd (H.gR 71) ?_
  refine EX.bd (H.gI 73) ?_
  obtain ⟨S_1, eS_1, hf⟩ := x_bind hf
  obtain ⟨h_2, eh_2, H, F_⟩ := H.aS (by decide) eS_1
  refine EX.bd eh_2 ?_
  replace F := F.tr F_
  refine EX.bd (H.gR 72) ?_
  refine EX.bd (H.gI 73) ?_
  obtain ⟨S_3, eS_3, hf⟩ := x_bind hf
  obtain ⟨h_4, eh_4, H, F_⟩ := H.aS (by decide) eS_3
  refine EX.bd eh_4 ?_
  replace F := F.tr F_
  refine EX.bd (H.gI 73) ?_
  obtain ⟨S_5, eS_5, hf⟩ := x_bind hf
  obtain ⟨h_6, eh_6, H, F_⟩ := H.pF 73 (xfit_int _) eS_5
  refine EX.bd eh_6 ?_
  replace F := F.tr F_
  obtain rfl := Option.some.inj hf
  exact ⟨_, rfl, H, F⟩
end
section
theorem gj221_112_ok {m : Nat} {h : xH} {S : mS} {x1 : Int32} {x2 : Int32} {x3 : Int32} {x4 : Int32} {x5 : Int32} {x6 : Int32} {x7 : Int32} {r : (Int32 × mS)} (H : RF h m S) (hf : gj221_112 x1 x2 x3 x4 x5 x6 x7 S = some r) : EX (j221_112 (some m) x1 x2 x3 x4 x5 x6 x7 h) (fun z => (r.1, z)) (QS m h r.2) := by
  have F := FM.rfl' (m := m) (h := h)
  unfold gj221_112 at hf
  unfold j221_112
  by_cases c_1 : x6 &&& 1 = x6
  · replace hf := x_pos c_1 hf
    refine EX.pos c_1 ?_
    obtain rfl := Option.some.inj hf
    exact ⟨_, rfl, H, F⟩
  · replace hf := x_neg c_1 hf
    cases hf
theorem gj221_104_ok {m : Nat} {k45 : Int32 → Int32 → Int32 → Int32 → Int32 → Int32 → Int32 → mS → Option (Int32 × mS)} {f45 : Option Nat → Int32 → Int32 → Int32 → Int32 → Int32 → Int32 → Int32 → xH → Option (Int32 × xH)} (hk45 : ∀ {h : xH} {S : mS} {x1 : Int32} {x2 : Int32} {x3 : Int32} {x4 : Int32} {x5 : Int32} {x6 : Int32} {x7 : Int32} {r : (Int32 × mS)}, RF h m S → k45 x1 x2 x3 x4 x5 x6 x7 S = some r → EX (f45 (some m) x1 x2 x3 x4 x5 x6 x7 h) (fun z => (r.1, z)) (QS m h r.2)) {h : xH} {S : mS} {x1 : Int32} {x2 : Int32} {x3 : Int32} {x4 : Int32} {x5 : Int32} {x6 : Int32} {x7 : Int32} {s0 : Int32} {r : (Int32 × mS)} (H : RF h m S) (hf : gj221_104 k45 x1 x2 x3 x4 x5 x6 x7 s0 S = some r) : EX (j221_104 f45 (some m) x1 x2 x3 x4 x5 x6 x7 s0 h) (fun z => (r.1, z)) (QS m h r.2) := by
  have F := FM.rfl' (m := m) (h := h)
  unfold gj221_104 at hf
  unfold j221_104
  exact EX.uS F (hk45 H hf)
theorem gl221_45_ok {m : Nat} : ∀ (n : Nat) {h : xH} {S : mS} {x1 : Int32} {x2 : Int32} {x3 : Int32} {x4 : Int32} {x5 : Int32} {x6 : Int32} {x7 : Int32} {r : (Int32 × mS)} (H : RF h m S), gl221_45 n x1 x2 x3 x4 x5 x6 x7 S = some r → EX (l221_45 n (some m) x1 x2 x3 x4 x5 x6 x7 h) (fun z => (r.1, z)) (QS m h r.2) := by
  intro n
  induction n with
  | zero => intros; rename_i hf; cases hf
  | succ n ih =>
    intro h S x1 x2 x3 x4 x5 x6 x7 r H hf
    have F := FM.rfl' (m := m) (h := h)
    replace hf : ((sLd S 22 x4).bind fun v_1 => (if v_1 ≤ x7 then gj221_112 x1 x2 x3 x4 x5 x6 x7 S else (if x6 = 0 then gj221_112 x1 x2 x3 x4 x5 x6 x7 S else (sLd S 10 ((10 * x5) + x7)).bind fun v_4 => (sLd S 21 x4).bind fun v_5 => (sLd S 12 (((600 * x3) + v_5) + x7)).bind fun v_6 => (if v_4 = v_6 then gj221_104 (gl221_45 n) x1 x2 x3 x4 x5 x6 x7 1 S else gj221_104 (gl221_45 n) x1 x2 x3 x4 x5 x6 x7 0 S)))) = some r := hf
    unfold l221_45
    refine EX.bd (H.gR 22) ?_
    obtain ⟨v_1, ev_1, hf⟩ := x_bind hf
    refine EX.bd (H.aI (by decide) ev_1) ?_
    by_cases c_2 : v_1 ≤ x7
    · replace hf := x_pos c_2 hf
      refine EX.pos c_2 ?_
      exact EX.uS F (gj221_112_ok H hf)
    · replace hf := x_neg c_2 hf
      refine EX.neg c_2 ?_
      by_cases c_3 : x6 = 0
      · replace hf := x_pos c_3 hf
        refine EX.pos c_3 ?_
        exact EX.uS F (gj221_112_ok H hf)
      · replace hf := x_neg c_3 hf
        refine EX.neg c_3 ?_
        refine EX.bd (H.gR 10) ?_
        obtain ⟨v_4, ev_4, hf⟩ := x_bind hf
        refine EX.bd (H.aI (by decide) ev_4) ?_
        refine EX.bd (H.gR 12) ?_
        refine EX.bd (H.gR 21) ?_
        obtain ⟨v_5, ev_5, hf⟩ := x_bind hf
        refine EX.bd (H.aI (by decide) ev_5) ?_
        obtain ⟨v_6, ev_6, hf⟩ := x_bind hf
        refine EX.bd (H.aI (by decide) ev_6) ?_
        by_cases c_7 : v_4 = v_6
        · replace hf := x_pos c_7 hf
          refine EX.pos c_7 ?_
          exact EX.uS F (gj221_104_ok (k45 := (gl221_45 n)) (f45 := (l221_45 n)) ih H hf)
        · replace hf := x_neg c_7 hf
          refine EX.neg c_7 ?_
          exact EX.uS F (gj221_104_ok (k45 := (gl221_45 n)) (f45 := (l221_45 n)) ih H hf)
theorem gj221_40_ok {m : Nat} {h : xH} {S : mS} {x1 : Int32} {x2 : Int32} {x3 : Int32} {x4 : Int32} {x5 : Int32} {s0 : Int32} {r : (Int32 × mS)} (H : RF h m S) (hf : gj221_40 x1 x2 x3 x4 x5 s0 S = some r) : EX (j221_40 (some m) x1 x2 x3 x4 x5 s0 h) (fun z => (r.1, z)) (QS m h r.2) := by
  have F := FM.rfl' (m := m) (h := h)
  unfold gj221_40 at hf
  unfold j221_40
  exact EX.uS F (gl221_45_ok xFuel H hf)
theorem gj221_39_ok {m : Nat} {h : xH} {S : mS} {x1 : Int32} {x2 : Int32} {x3 : Int32} {x4 : Int32} {x5 : Int32} {r : (Int32 × mS)} (H : RF h m S) (hf : gj221_39 x1 x2 x3 x4 x5 S = some r) : EX (j221_39 (some m) x1 x2 x3 x4 x5 h) (fun z => (r.1, z)) (QS m h r.2) := by
  have F := FM.rfl' (m := m) (h := h)
  unfold gj221_39 at hf
  unfold j221_39
  exact EX.uS F (gj221_40_ok H hf)
theorem g221_ok {h : xH} {m : Nat} {S : mS} {x1 : Int32} {x2 : Int32} {x3 : Int32} {x4 : Int32} {r : (Int32 × mS)} (H : RF h m S) (hf : g221 x1 x2 x3 x4 S = some r) : EX (fn221 (some m) x1 x2 x3 x4 h) (fun z => (r.1, z)) (QS m h r.2) := by
  have F := FM.rfl' (m := m) (h := h)
  unfold g221 at hf
  unfold fn221
  refine EX.bd (H.gR 16) ?_
  obtain ⟨v_1, ev_1, hf⟩ := x_bind hf
  refine EX.bd (H.aI (by decide) ev_1) ?_
  by_cases c_2 : v_1 = 2
  · replace hf := x_pos c_2 hf
    refine EX.pos c_2 ?_
    refine EX.bd (H.gR 22) ?_
    obtain ⟨v_3, ev_3, hf⟩ := x_bind hf
    refine EX.bd (H.aI (by decide) ev_3) ?_
    refine EX.bd (H.gR 11) ?_
    obtain ⟨v_4, ev_4, hf⟩ := x_bind hf
    refine EX.bd (H.aI (by decide) ev_4) ?_
    by_cases c_5 : v_3 = v_4
    · replace hf := x_pos c_5 hf
      refine EX.pos c_5 ?_
      exact EX.uS F (gj221_40_ok H hf)
    · replace hf := x_neg c_5 hf
      refine EX.neg c_5 ?_
      exact EX.uS F (gj221_39_ok H hf)
  · replace hf := x_neg c_2 hf
    refine EX.neg c_2 ?_
    exact EX.uS F (gj221_39_ok H hf)
end
section
theorem gj220_37_ok {m : Nat} {k5 : Int32 → Int32 → Int32 → Int32 → mS → Option (Int32 × mS)} {f5 : Option Nat → Int32 → Int32 → Int32 → Int32 → xH → Option (Int32 × xH)} (hk5 : ∀ {h : xH} {S : mS} {x1 : Int32} {x2 : Int32} {x3 : Int32} {x4 : Int32} {r : (Int32 × mS)}, RF h m S → k5 x1 x2 x3 x4 S = some r → EX (f5 (some m) x1 x2 x3 x4 h) (fun z => (r.1, z)) (QS m h r.2)) {h : xH} {S : mS} {x1 : Int32} {x2 : Int32} {x3 : Int32} {x4 : Int32} {s0 : Int32} {r : (Int32 × mS)} (H : RF h m S) (hf : gj220_37 k5 x1 x2 x3 x4 s0 S = some r) : EX (j220_37 f5 (some m) x1 x2 x3 x4 s0 h) (fun z => (r.1, z)) (QS m h r.2) := by
  have F := FM.rfl' (m := m) (h := h)
  unfold gj220_37 at hf
  unfold j220_37
  exact EX.uS F (hk5 H hf)
theorem gj220_32_ok {m : Nat} {k5 : Int32 → Int32 → Int32 → Int32 → mS → Option (Int32 × mS)} {f5 : Option Nat → Int32 → Int32 → Int32 → Int32 → xH → Option (Int32 × xH)} (hk5 : ∀ {h : xH} {S : mS} {x1 : Int32} {x2 : Int32} {x3 : Int32} {x4 : Int32} {r : (Int32 × mS)}, RF h m S → k5 x1 x2 x3 x4 S = some r → EX (f5 (some m) x1 x2 x3 x4 h) (fun z => (r.1, z)) (QS m h r.2)) {h : xH} {S : mS} {x1 : Int32} {x2 : Int32} {x3 : Int32} {x4 : Int32} {r : (Int32 × mS)} (H : RF h m S) (hf : gj220_32 k5 x1 x2 x3 x4 S = some r) : EX (j220_32 f5 (some m) x1 x2 x3 x4 h) (fun z => (r.1, z)) (QS m h r.2) := by
  have F := FM.rfl' (m := m) (h := h)
  unfold gj220_32 at hf
  unfold j220_32
  exact EX.uS F (gj220_37_ok (k5 := k5) (f5 := f5) hk5 H hf)
theorem gl220_5_ok {m : Nat} : ∀ (n : Nat) {h : xH} {S : mS} {x1 : Int32} {x2 : Int32} {x3 : Int32} {x4 : Int32} {r : (Int32 × mS)} (H : RF h m S), gl220_5 n x1 x2 x3 x4 S = some r → EX (l220_5 n (some m) x1 x2 x3 x4 h) (fun z => (r.1, z)) (QS m h r.2) := by
  intro n
  induction n with
  | zero => intros; rename_i hf; cases hf
  | succ n ih =>
    intro h S x1 x2 x3 x4 r H hf
    have F := FM.rfl' (m := m) (h := h)
    replace hf : ((sLd S 9 x1).bind fun v_1 => (if v_1 ≤ x4 then (if x3 &&& 1 = x3 then some (x3, S) else none) else (if x3 = 0 then (g221 x1 x4 x1 x2 S).bind fun r_6 => (if r_6.1 = 0 then gj220_37 (gl220_5 n) x1 x2 x3 x4 0 r_6.2 else gj220_32 (gl220_5 n) x1 x2 x3 x4 r_6.2) else gj220_32 (gl220_5 n) x1 x2 x3 x4 S))) = some r := hf
    unfold l220_5
    refine EX.bd (H.gR 9) ?_
    obtain ⟨v_1, ev_1, hf⟩ := x_bind hf
    refine EX.bd (H.aI (by decide) ev_1) ?_
    by_cases c_2 : v_1 ≤ x4
    · replace hf := x_pos c_2 hf
      refine EX.pos c_2 ?_
      by_cases c_3 : x3 &&& 1 = x3
      · replace hf := x_pos c_3 hf
        refine EX.pos c_3 ?_
        obtain rfl := Option.some.inj hf
        exact ⟨_, rfl, H, F⟩
      · replace hf := x_neg c_3 hf
        cases hf
    · replace hf := x_neg c_2 hf
      refine EX.neg c_2 ?_
      by_cases c_4 : x3 = 0
      · replace hf := x_pos c_4 hf
        refine EX.pos c_4 ?_
        have Hc_ := H.cv
        obtain ⟨r_6, er_6, hf⟩ := x_bind hf
        obtain ⟨h_5, eh_5, H, F_⟩ := g221_ok H er_6
        refine EX.bd Hc_ ?_
        refine EX.bd eh_5 ?_
        dsimp only
        replace F := F.tr F_
        by_cases c_7 : r_6.1 = 0
        · replace hf := x_pos c_7 hf
          refine EX.pos c_7 ?_
          exact EX.uS F (gj220_37_ok (k5 := (gl220_5 n)) (f5 := (l220_5 n)) ih H hf)
        · replace hf := x_neg c_7 hf
          refine EX.neg c_7 ?_
          exact EX.uS F (gj220_32_ok (k5 := (gl220_5 n)) (f5 := (l220_5 n)) ih H hf)
      · replace hf := x_neg c_4 hf
        refine EX.neg c_4 ?_
        exact EX.uS F (gj220_32_ok (k5 := (gl220_5 n)) (f5 := (l220_5 n)) ih H hf)
theorem g220_ok {h : xH} {m : Nat} {S : mS} {x1 : Int32} {x2 : Int32} {r : (Int32 × mS)} (H : RF h m S) (hf : g220 x1 x2 S = some r) : EX (fn220 (some m) x1 x2 h) (fun z => (r.1, z)) (QS m h r.2) := by
  have F := FM.rfl' (m := m) (h := h)
  unfold g220 at hf
  unfold fn220
  exact EX.uS F (gl220_5_ok xFuel H hf)
end
section
theorem gj222_167_ok {m : Nat} {k2 : Int32 → Int32 → mS → Option mS} {f2 : Option Nat → Int32 → Int32 → xH → Option xH} (hk2 : ∀ {h : xH} {S : mS} {x1 : Int32} {x2 : Int32} {r : mS}, RF h m S → k2 x1 x2 S = some r → EX (f2 (some m) x1 x2 h) (fun z => z) (QS m h r)) {k84 : Int32 → Int32 → Int32 → Int32 → mS → Option mS} {f84 : Option Nat → Int32 → Int32 → Int32 → Int32 → xH → Option xH} (hk84 : ∀ {h : xH} {S : mS} {x1 : Int32} {x2 : Int32} {x3 : Int32} {x4 : Int32} {r : mS}, RF h m S → k84 x1 x2 x3 x4 S = some r → EX (f84 (some m) x1 x2 x3 x4 h) (fun z => z) (QS m h r)) {h : xH} {S : mS} {x1 : Int32} {x2 : Int32} {x3 : Int32} {x4 : Int32} {x5 : Int32} {r : mS} (H : RF h m S) (hf : gj222_167 k2 k84 x1 x2 x3 x4 x5 S = some r) : EX (j222_167 f2 f84 (some m) x1 x2 x3 x4 x5 h) (fun z => z) (QS m h r) := by
  have F := FM.rfl' (m := m) (h := h)
  unfold gj222_167 at hf
  unfold j222_167
  exact EX.uS F (hk84 H hf)
theorem gl222_84_ok {m : Nat} {k2 : Int32 → Int32 → mS → Option mS} {f2 : Option Nat → Int32 → Int32 → xH → Option xH} (hk2 : ∀ {h : xH} {S : mS} {x1 : Int32} {x2 : Int32} {r : mS}, RF h m S → k2 x1 x2 S = some r → EX (f2 (some m) x1 x2 h) (fun z => z) (QS m h r)) : ∀ (n : Nat) {h : xH} {S : mS} {x1 : Int32} {x2 : Int32} {x3 : Int32} {x4 : Int32} {r : mS} (H : RF h m S), gl222_84 k2 n x1 x2 x3 x4 S = some r → EX (l222_84 f2 n (some m) x1 x2 x3 x4 h) (fun z => z) (QS m h r) := by
  intro n
  induction n with
  | zero => intros; rename_i hf; cases hf
  | succ n ih =>
    intro h S x1 x2 x3 x4 r H hf
    have F := FM.rfl' (m := m) (h := h)
    replace hf : ((sLd S 19 x3).bind fun v_1 => (if v_1 ≤ x4 then k2 x1 (x2 + 1) S else (sLd S 18 x3).bind fun v_3 => (sLd S 24 (((120 * x1) + v_3) + x4)).bind fun v_4 => (if v_4 = 2 then (sLd S 29 (((120 * x1) + v_3) + x4)).bind fun v_6 => (sLd S 30 (((120 * x1) + v_3) + x4)).bind fun v_7 => (g164 x1 12 ((600 * x1) + v_6) v_7 S).bind fun r_9 => (if r_9.1 = (-1) then (sLd r_9.2 25 (((120 * x1) + v_3) + x4)).bind fun v_11 => (g219 2 v_11 r_9.2).bind fun S_13 => gj222_167 k2 (gl222_84 k2 n) x1 x2 x3 x4 (((120 * x1) + v_3) + x4) S_13 else gj222_167 k2 (gl222_84 k2 n) x1 x2 x3 x4 (((120 * x1) + v_3) + x4) r_9.2) else gj222_167 k2 (gl222_84 k2 n) x1 x2 x3 x4 (((120 * x1) + v_3) + x4) S))) = some r := hf
    unfold l222_84
    refine EX.bd (H.gR 19) ?_
    obtain ⟨v_1, ev_1, hf⟩ := x_bind hf
    refine EX.bd (H.aI (by decide) ev_1) ?_
    by_cases c_2 : v_1 ≤ x4
    · replace hf := x_pos c_2 hf
      refine EX.pos c_2 ?_
      exact EX.uS F (hk2 H hf)
    · replace hf := x_neg c_2 hf
      refine EX.neg c_2 ?_
      refine EX.bd (H.gR 18) ?_
      obtain ⟨v_3, ev_3, hf⟩ := x_bind hf
      refine EX.bd (H.aI (by decide) ev_3) ?_
      refine EX.bd (H.gR 24) ?_
      obtain ⟨v_4, ev_4, hf⟩ := x_bind hf
      refine EX.bd (H.aI (by decide) ev_4) ?_
      by_cases c_5 : v_4 = 2
      · replace hf := x_pos c_5 hf
        refine EX.pos c_5 ?_
        refine EX.bd (H.gR 12) ?_
        refine EX.bd (H.gR 29) ?_
        obtain ⟨v_6, ev_6, hf⟩ := x_bind hf
        refine EX.bd (H.aI (by decide) ev_6) ?_
        refine EX.bd (H.gR 30) ?_
        obtain ⟨v_7, ev_7, hf⟩ := x_bind hf
        refine EX.bd (H.aI (by decide) ev_7) ?_
        have Hc_ := H.cv
        obtain ⟨r_9, er_9, hf⟩ := x_bind hf
        obtain ⟨h_8, eh_8, H, F_⟩ := g164_ok H (by decide) er_9
        refine EX.bd Hc_ ?_
        refine EX.bd eh_8 ?_
        dsimp only
        replace F := F.tr F_
        by_cases c_10 : r_9.1 = (-1)
        · replace hf := x_pos c_10 hf
          refine EX.pos c_10 ?_
          refine EX.bd (H.gR 25) ?_
          obtain ⟨v_11, ev_11, hf⟩ := x_bind hf
          refine EX.bd (H.aI (by decide) ev_11) ?_
          have Hc_ := H.cv
          obtain ⟨S_13, eS_13, hf⟩ := x_bind hf
          obtain ⟨h_12, eh_12, H, F_⟩ := g219_ok H eS_13
          refine EX.bd Hc_ ?_
          refine EX.bd eh_12 ?_
          replace F := F.tr F_
          exact EX.uS F (gj222_167_ok (k2 := k2) (f2 := f2) hk2 (k84 := (gl222_84 k2 n)) (f84 := (l222_84 f2 n)) ih H hf)
        · replace hf := x_neg c_10 hf
          refine EX.neg c_10 ?_
          exact EX.uS F (gj222_167_ok (k2 := k2) (f2 := f2) hk2 (k84 := (gl222_84 k2 n)) (f84 := (l222_84 f2 n)) ih H hf)
      · replace hf := x_neg c_5 hf
        refine EX.neg c_5 ?_
        exact EX.uS F (gj222_167_ok (k2 := k2) (f2 := f2) hk2 (k84 := (gl222_84 k2 n)) (f84 := (l222_84 f2 n)) ih H hf)
theorem gj222_81_ok {m : Nat} {k2 : Int32 → Int32 → mS → Option mS} {f2 : Option Nat → Int32 → Int32 → xH → Option xH} (hk2 : ∀ {h : xH} {S : mS} {x1 : Int32} {x2 : Int32} {r : mS}, RF h m S → k2 x1 x2 S = some r → EX (f2 (some m) x1 x2 h) (fun z => z) (QS m h r)) {h : xH} {S : mS} {x1 : Int32} {x2 : Int32} {x3 : Int32} {r : mS} (H : RF h m S) (hf : gj222_81 k2 x1 x2 x3 S = some r) : EX (j222_81 f2 (some m) x1 x2 x3 h) (fun z => z) (QS m h r) := by
  have F := FM.rfl' (m := m) (h := h)
  unfold gj222_81 at hf
  unfold j222_81
  exact EX.uS F (gl222_84_ok (k2 := k2) (f2 := f2) hk2 xFuel H hf)
theorem gj222_39_ok {m : Nat} {k2 : Int32 → Int32 → mS → Option mS} {f2 : Option Nat → Int32 → Int32 → xH → Option xH} (hk2 : ∀ {h : xH} {S : mS} {x1 : Int32} {x2 : Int32} {r : mS}, RF h m S → k2 x1 x2 S = some r → EX (f2 (some m) x1 x2 h) (fun z => z) (QS m h r)) {h : xH} {S : mS} {x1 : Int32} {x2 : Int32} {x3 : Int32} {r : mS} (H : RF h m S) (hf : gj222_39 k2 x1 x2 x3 S = some r) : EX (j222_39 f2 (some m) x1 x2 x3 h) (fun z => z) (QS m h r) := by
  have F := FM.rfl' (m := m) (h := h)
  unfold gj222_39 at hf
  unfold j222_39
  refine EX.bd (H.gR 12) ?_
  refine EX.bd (H.gR 21) ?_
  obtain ⟨v_1, ev_1, hf⟩ := x_bind hf
  refine EX.bd (H.aI (by decide) ev_1) ?_
  refine EX.bd (H.gR 22) ?_
  obtain ⟨v_2, ev_2, hf⟩ := x_bind hf
  refine EX.bd (H.aI (by decide) ev_2) ?_
  have Hc_ := H.cv
  obtain ⟨r_4, er_4, hf⟩ := x_bind hf
  obtain ⟨h_3, eh_3, H, F_⟩ := g164_ok H (by decide) er_4
  refine EX.bd Hc_ ?_
  refine EX.bd eh_3 ?_
  dsimp only
  replace F := F.tr F_
  by_cases c_5 : r_4.1 = (-1)
  · replace hf := x_pos c_5 hf
    refine EX.pos c_5 ?_
    refine EX.bd (H.gR 20) ?_
    obtain ⟨v_6, ev_6, hf⟩ := x_bind hf
    refine EX.bd (H.aI (by decide) ev_6) ?_
    have Hc_ := H.cv
    obtain ⟨S_8, eS_8, hf⟩ := x_bind hf
    obtain ⟨h_7, eh_7, H, F_⟩ := g219_ok H eS_8
    refine EX.bd Hc_ ?_
    refine EX.bd eh_7 ?_
    replace F := F.tr F_
    exact EX.uS F (gj222_81_ok (k2 := k2) (f2 := f2) hk2 H hf)
  · replace hf := x_neg c_5 hf
    refine EX.neg c_5 ?_
    exact EX.uS F (gj222_81_ok (k2 := k2) (f2 := f2) hk2 H hf)
theorem gl222_2_ok {m : Nat} : ∀ (n : Nat) {h : xH} {S : mS} {x1 : Int32} {x2 : Int32} {r : mS} (H : RF h m S), gl222_2 n x1 x2 S = some r → EX (l222_2 n (some m) x1 x2 h) (fun z => z) (QS m h r) := by
  intro n
  induction n with
  | zero => intros; rename_i hf; cases hf
  | succ n ih =>
    intro h S x1 x2 r H hf
    have F := FM.rfl' (m := m) (h := h)
    replace hf : ((sLd S 14 x1).bind fun v_1 => (if v_1 ≤ x2 then some S else (sLd S 16 ((24 * x1) + x2)).bind fun v_3 => (if v_3 = 4 then gj222_39 (gl222_2 n) x1 x2 ((24 * x1) + x2) S else (sLd S 16 ((24 * x1) + x2)).bind fun v_5 => (if v_5 = 5 then gj222_39 (gl222_2 n) x1 x2 ((24 * x1) + x2) S else gj222_81 (gl222_2 n) x1 x2 ((24 * x1) + x2) S)))) = some r := hf
    unfold l222_2
    refine EX.bd (H.gR 14) ?_
    obtain ⟨v_1, ev_1, hf⟩ := x_bind hf
    refine EX.bd (H.aI (by decide) ev_1) ?_
    by_cases c_2 : v_1 ≤ x2
    · replace hf := x_pos c_2 hf
      refine EX.pos c_2 ?_
      obtain rfl := Option.some.inj hf
      exact ⟨_, rfl, H, F⟩
    · replace hf := x_neg c_2 hf
      refine EX.neg c_2 ?_
      refine EX.bd (H.gR 16) ?_
      obtain ⟨v_3, ev_3, hf⟩ := x_bind hf
      refine EX.bd (H.aI (by decide) ev_3) ?_
      by_cases c_4 : v_3 = 4
      · replace hf := x_pos c_4 hf
        refine EX.pos c_4 ?_
        exact EX.uS F (gj222_39_ok (k2 := (gl222_2 n)) (f2 := (l222_2 n)) ih H hf)
      · replace hf := x_neg c_4 hf
        refine EX.neg c_4 ?_
        refine EX.bd (H.gR 16) ?_
        obtain ⟨v_5, ev_5, hf⟩ := x_bind hf
        refine EX.bd (H.aI (by decide) ev_5) ?_
        by_cases c_6 : v_5 = 5
        · replace hf := x_pos c_6 hf
          refine EX.pos c_6 ?_
          exact EX.uS F (gj222_39_ok (k2 := (gl222_2 n)) (f2 := (l222_2 n)) ih H hf)
        · replace hf := x_neg c_6 hf
          refine EX.neg c_6 ?_
          exact EX.uS F (gj222_81_ok (k2 := (gl222_2 n)) (f2 := (l222_2 n)) ih H hf)
theorem g222_ok {h : xH} {m : Nat} {S : mS} {x1 : Int32} {r : mS} (H : RF h m S) (hf : g222 x1 S = some r) : EX (fn222 (some m) x1 h) (fun z => z) (QS m h r) := by
  have F := FM.rfl' (m := m) (h := h)
  unfold g222 at hf
  unfold fn222
  exact EX.uS F (gl222_2_ok xFuel H hf)
end
section
theorem gj223_76_ok {m : Nat} {k6 : Int32 → Int32 → Int32 → Int32 → Int32 → mS → Option (Int32 × mS)} {f6 : Option Nat → Int32 → Int32 → Int32 → Int32 → Int32 → xH → Option (Int32 × xH)} (hk6 : ∀ {h : xH} {S : mS} {x1 : Int32} {x2 : Int32} {x3 : Int32} {x4 : Int32} {x5 : Int32} {r : (Int32 × mS)}, RF h m S → k6 x1 x2 x3 x4 x5 S = some r → EX (f6 (some m) x1 x2 x3 x4 x5 h) (fun z => (r.1, z)) (QS m h r.2)) {k15 : Int32 → Int32 → Int32 → Int32 → Int32 → Int32 → mS → Option (Int32 × mS)} {f15 : Option Nat → Int32 → Int32 → Int32 → Int32 → Int32 → Int32 → xH → Option (Int32 × xH)} (hk15 : ∀ {h : xH} {S : mS} {x1 : Int32} {x2 : Int32} {x3 : Int32} {x4 : Int32} {x5 : Int32} {x6 : Int32} {r : (Int32 × mS)}, RF h m S → k15 x1 x2 x3 x4 x5 x6 S = some r → EX (f15 (some m) x1 x2 x3 x4 x5 x6 h) (fun z => (r.1, z)) (QS m h r.2)) {h : xH} {S : mS} {x1 : Int32} {x2 : Int32} {x3 : Int32} {x4 : Int32} {x5 : Int32} {x6 : Int32} {x7 : Int32} {s0 : Int32} {r : (Int32 × mS)} (H : RF h m S) (hf : gj223_76 k6 k15 x1 x2 x3 x4 x5 x6 x7 s0 S = some r) : EX (j223_76 f6 f15 (some m) x1 x2 x3 x4 x5 x6 x7 s0 h) (fun z => (r.1, z)) (QS m h r.2) := by
  have F := FM.rfl' (m := m) (h := h)
  unfold gj223_76 at hf
  unfold j223_76
  exact EX.uS F (hk15 H hf)
theorem gj223_75_ok {m : Nat} {k6 : Int32 → Int32 → Int32 → Int32 → Int32 → mS → Option (Int32 × mS)} {f6 : Option Nat → Int32 → Int32 → Int32 → Int32 → Int32 → xH → Option (Int32 × xH)} (hk6 : ∀ {h : xH} {S : mS} {x1 : Int32} {x2 : Int32} {x3 : Int32} {x4 : Int32} {x5 : Int32} {r : (Int32 × mS)}, RF h m S → k6 x1 x2 x3 x4 x5 S = some r → EX (f6 (some m) x1 x2 x3 x4 x5 h) (fun z => (r.1, z)) (QS m h r.2)) {k15 : Int32 → Int32 → Int32 → Int32 → Int32 → Int32 → mS → Option (Int32 × mS)} {f15 : Option Nat → Int32 → Int32 → Int32 → Int32 → Int32 → Int32 → xH → Option (Int32 × xH)} (hk15 : ∀ {h : xH} {S : mS} {x1 : Int32} {x2 : Int32} {x3 : Int32} {x4 : Int32} {x5 : Int32} {x6 : Int32} {r : (Int32 × mS)}, RF h m S → k15 x1 x2 x3 x4 x5 x6 S = some r → EX (f15 (some m) x1 x2 x3 x4 x5 x6 h) (fun z => (r.1, z)) (QS m h r.2)) {h : xH} {S : mS} {x1 : Int32} {x2 : Int32} {x3 : Int32} {x4 : Int32} {x5 : Int32} {x6 : Int32} {x7 : Int32} {r : (Int32 × mS)} (H : RF h m S) (hf : gj223_75 k6 k15 x1 x2 x3 x4 x5 x6 x7 S = some r) : EX (j223_75 f6 f15 (some m) x1 x2 x3 x4 x5 x6 x7 h) (fun z => (r.1, z)) (QS m h r.2) := by
  have F := FM.rfl' (m := m) (h := h)
  unfold gj223_75 at hf
  unfold j223_75
  exact EX.uS F (gj223_76_ok (k6 := k6) (f6 := f6) hk6 (k15 := k15) (f15 := f15) hk15 H hf)
theorem gj223_71_ok {m : Nat} {k6 : Int32 → Int32 → Int32 → Int32 → Int32 → mS → Option (Int32 × mS)} {f6 : Option Nat → Int32 → Int32 → Int32 → Int32 → Int32 → xH → Option (Int32 × xH)} (hk6 : ∀ {h : xH} {S : mS} {x1 : Int32} {x2 : Int32} {x3 : Int32} {x4 : Int32} {x5 : Int32} {r : (Int32 × mS)}, RF h m S → k6 x1 x2 x3 x4 x5 S = some r → EX (f6 (some m) x1 x2 x3 x4 x5 h) (fun z => (r.1, z)) (QS m h r.2)) {k15 : Int32 → Int32 → Int32 → Int32 → Int32 → Int32 → mS → Option (Int32 × mS)} {f15 : Option Nat → Int32 → Int32 → Int32 → Int32 → Int32 → Int32 → xH → Option (Int32 × xH)} (hk15 : ∀ {h : xH} {S : mS} {x1 : Int32} {x2 : Int32} {x3 : Int32} {x4 : Int32} {x5 : Int32} {x6 : Int32} {r : (Int32 × mS)}, RF h m S → k15 x1 x2 x3 x4 x5 x6 S = some r → EX (f15 (some m) x1 x2 x3 x4 x5 x6 h) (fun z => (r.1, z)) (QS m h r.2)) {h : xH} {S : mS} {x1 : Int32} {x2 : Int32} {x3 : Int32} {x4 : Int32} {x5 : Int32} {x6 : Int32} {x7 : Int32} {r : (Int32 × mS)} (H : RF h m S) (hf : gj223_71 k6 k15 x1 x2 x3 x4 x5 x6 x7 S = some r) : EX (j223_71 f6 f15 (some m) x1 x2 x3 x4 x5 x6 x7 h) (fun z => (r.1, z)) (QS m h r.2) := by
  have F := FM.rfl' (m := m) (h := h)
  unfold gj223_71 at hf
  unfold j223_71
  exact EX.uS F (gj223_76_ok (k6 := k6) (f6 := f6) hk6 (k15 := k15) (f15 := f15) hk15 H hf)
theorem gl223_15_ok {m : Nat} {k6 : Int32 → Int32 → Int32 → Int32 → Int32 → mS → Option (Int32 × mS)} {f6 : Option Nat → Int32 → Int32 → Int32 → Int32 → Int32 → xH → Option (Int32 × xH)} (hk6 : ∀ {h : xH} {S : mS} {x1 : Int32} {x2 : Int32} {x3 : Int32} {x4 : Int32} {x5 : Int32} {r : (Int32 × mS)}, RF h m S → k6 x1 x2 x3 x4 x5 S = some r → EX (f6 (some m) x1 x2 x3 x4 x5 h) (fun z => (r.1, z)) (QS m h r.2)) : ∀ (n : Nat) {h : xH} {S : mS} {x1 : Int32} {x2 : Int32} {x3 : Int32} {x4 : Int32} {x5 : Int32} {x6 : Int32} {r : (Int32 × mS)} (H : RF h m S), gl223_15 k6 n x1 x2 x3 x4 x5 x6 S = some r → EX (l223_15 f6 n (some m) x1 x2 x3 x4 x5 x6 h) (fun z => (r.1, z)) (QS m h r.2) := by
  intro n
  induction n with
  | zero => intros; rename_i hf; cases hf
  | succ n ih =>
    intro h S x1 x2 x3 x4 x5 x6 r H hf
    have F := FM.rfl' (m := m) (h := h)
    replace hf : ((sLd S 14 x5).bind fun v_1 => (if v_1 ≤ x6 then (g156 x5 S).bind fun r_4 => k6 x1 x2 x3 x4 r_4.1 r_4.2 else (if x4 = 0 then (sLd S 16 ((24 * x5) + x6)).bind fun v_6 => (if v_6 = x2 then (if x2 = 3 then gj223_71 k6 (gl223_15 k6 n) x1 x2 x3 x4 x5 x6 ((24 * x5) + x6) S else (g221 x1 x3 x5 ((24 * x5) + x6) S).bind fun r_10 => (if r_10.1 = 0 then gj223_75 k6 (gl223_15 k6 n) x1 x2 x3 x4 x5 x6 ((24 * x5) + x6) r_10.2 else gj223_71 k6 (gl223_15 k6 n) x1 x2 x3 x4 x5 x6 ((24 * x5) + x6) r_10.2)) else gj223_75 k6 (gl223_15 k6 n) x1 x2 x3 x4 x5 x6 ((24 * x5) + x6) S) else gj223_71 k6 (gl223_15 k6 n) x1 x2 x3 x4 x5 x6 ((24 * x5) + x6) S))) = some r := hf
    unfold l223_15
    refine EX.bd (H.gR 14) ?_
    obtain ⟨v_1, ev_1, hf⟩ := x_bind hf
    refine EX.bd (H.aI (by decide) ev_1) ?_
    by_cases c_2 : v_1 ≤ x6
    · replace hf := x_pos c_2 hf
      refine EX.pos c_2 ?_
      have Hc_ := H.cv
      obtain ⟨r_4, er_4, hf⟩ := x_bind hf
      obtain ⟨h_3, eh_3, H, F_⟩ := g156_ok H er_4
      refine EX.bd Hc_ ?_
      refine EX.bd eh_3 ?_
      dsimp only
      replace F := F.tr F_
      exact EX.uS F (hk6 H hf)
    · replace hf := x_neg c_2 hf
      refine EX.neg c_2 ?_
      by_cases c_5 : x4 = 0
      · replace hf := x_pos c_5 hf
        refine EX.pos c_5 ?_
        refine EX.bd (H.gR 16) ?_
        obtain ⟨v_6, ev_6, hf⟩ := x_bind hf
        refine EX.bd (H.aI (by decide) ev_6) ?_
        by_cases c_7 : v_6 = x2
        · replace hf := x_pos c_7 hf
          refine EX.pos c_7 ?_
          by_cases c_8 : x2 = 3
          · replace hf := x_pos c_8 hf
            refine EX.pos c_8 ?_
            exact EX.uS F (gj223_71_ok (k6 := k6) (f6 := f6) hk6 (k15 := (gl223_15 k6 n)) (f15 := (l223_15 f6 n)) ih H hf)
          · replace hf := x_neg c_8 hf
            refine EX.neg c_8 ?_
            have Hc_ := H.cv
            obtain ⟨r_10, er_10, hf⟩ := x_bind hf
            obtain ⟨h_9, eh_9, H, F_⟩ := g221_ok H er_10
            refine EX.bd Hc_ ?_
            refine EX.bd eh_9 ?_
            dsimp only
            replace F := F.tr F_
            by_cases c_11 : r_10.1 = 0
            · replace hf := x_pos c_11 hf
              refine EX.pos c_11 ?_
              exact EX.uS F (gj223_75_ok (k6 := k6) (f6 := f6) hk6 (k15 := (gl223_15 k6 n)) (f15 := (l223_15 f6 n)) ih H hf)
            · replace hf := x_neg c_11 hf
              refine EX.neg c_11 ?_
              exact EX.uS F (gj223_71_ok (k6 := k6) (f6 := f6) hk6 (k15 := (gl223_15 k6 n)) (f15 := (l223_15 f6 n)) ih H hf)
        · replace hf := x_neg c_7 hf
          refine EX.neg c_7 ?_
          exact EX.uS F (gj223_75_ok (k6 := k6) (f6 := f6) hk6 (k15 := (gl223_15 k6 n)) (f15 := (l223_15 f6 n)) ih H hf)
      · replace hf := x_neg c_5 hf
        refine EX.neg c_5 ?_
        exact EX.uS F (gj223_71_ok (k6 := k6) (f6 := f6) hk6 (k15 := (gl223_15 k6 n)) (f15 := (l223_15 f6 n)) ih H hf)
theorem gl223_6_ok {m : Nat} : ∀ (n : Nat) {h : xH} {S : mS} {x1 : Int32} {x2 : Int32} {x3 : Int32} {x4 : Int32} {x5 : Int32} {r : (Int32 × mS)} (H : RF h m S), gl223_6 n x1 x2 x3 x4 x5 S = some r → EX (l223_6 n (some m) x1 x2 x3 x4 x5 h) (fun z => (r.1, z)) (QS m h r.2) := by
  intro n
  induction n with
  | zero => intros; rename_i hf; cases hf
  | succ n ih =>
    intro h S x1 x2 x3 x4 x5 r H hf
    have F := FM.rfl' (m := m) (h := h)
    replace hf : ((if x5 = (-1) then (if x4 &&& 1 = x4 then some (x4, S) else none) else gl223_15 (gl223_6 n) xFuel x1 x2 x3 x4 x5 0 S)) = some r := hf
    unfold l223_6
    by_cases c_1 : x5 = (-1)
    · replace hf := x_pos c_1 hf
      refine EX.pos c_1 ?_
      by_cases c_2 : x4 &&& 1 = x4
      · replace hf := x_pos c_2 hf
        refine EX.pos c_2 ?_
        obtain rfl := Option.some.inj hf
        exact ⟨_, rfl, H, F⟩
      · replace hf := x_neg c_2 hf
        cases hf
    · replace hf := x_neg c_1 hf
      refine EX.neg c_1 ?_
      exact EX.uS F (gl223_15_ok (k6 := (gl223_6 n)) (f6 := (l223_6 n)) ih xFuel H hf)
theorem g223_ok {h : xH} {m : Nat} {S : mS} {x1 : Int32} {x2 : Int32} {x3 : Int32} {r : (Int32 × mS)} (H : RF h m S) (hf : g223 x1 x2 x3 S = some r) : EX (fn223 (some m) x1 x2 x3 h) (fun z => (r.1, z)) (QS m h r.2) := by
  have F := FM.rfl' (m := m) (h := h)
  unfold g223 at hf
  unfold fn223
  exact EX.uS F (gl223_6_ok xFuel H hf)
end
section
theorem gj224_262_ok {m : Nat} {h : xH} {S : mS} {x1 : Int32} {x2 : Int32} {x3 : Int32} {r : (Int32 × mS)} (H : RF h m S) (hf : gj224_262 x1 x2 x3 S = some r) : EX (j224_262 (some m) x1 x2 x3 h) (fun z => (r.1, z)) (QS m h r.2) := by
  have F := FM.rfl' (m := m) (h := h)
  unfold gj224_262 at hf
  unfold j224_262
  refine EX.bd (H.gI 73) ?_
  obtain rfl := Option.some.inj hf
  exact ⟨_, rfl, H, F⟩
theorem gj224_230_ok {m : Nat} {k203 : Int32 → Int32 → Int32 → mS → Option (Int32 × mS)} {f203 : Option Nat → Int32 → Int32 → Int32 → xH → Option (Int32 × xH)} (hk203 : ∀ {h : xH} {S : mS} {x1 : Int32} {x2 : Int32} {x3 : Int32} {r : (Int32 × mS)}, RF h m S → k203 x1 x2 x3 S = some r → EX (f203 (some m) x1 x2 x3 h) (fun z => (r.1, z)) (QS m h r.2)) {h : xH} {S : mS} {x1 : Int32} {x2 : Int32} {x3 : Int32} {r : (Int32 × mS)} (H : RF h m S) (hf : gj224_230 k203 x1 x2 x3 S = some r) : EX (j224_230 f203 (some m) x1 x2 x3 h) (fun z => (r.1, z)) (QS m h r.2) := by
  have F := FM.rfl' (m := m) (h := h)
  unfold gj224_230 at hf
  unfold j224_230
  exact EX.uS F (hk203 H hf)
theorem gl224_203_ok {m : Nat} : ∀ (n : Nat) {h : xH} {S : mS} {x1 : Int32} {x2 : Int32} {x3 : Int32} {r : (Int32 × mS)} (H : RF h m S), gl224_203 n x1 x2 x3 S = some r → EX (l224_203 n (some m) x1 x2 x3 h) (fun z => (r.1, z)) (QS m h r.2) := by
  intro n
  induction n with
  | zero => intros; rename_i hf; cases hf
  | succ n ih =>
    intro h S x1 x2 x3 r H hf
    have F := FM.rfl' (m := m) (h := h)
    replace hf : ((sLd S 9 x1).bind fun v_1 => (if v_1 ≤ x3 then (sLd S 6 x1).bind fun v_3 => (if v_3 = 0 then gj224_262 x1 x2 x3 S else (g223 x1 3 0 S).bind fun r_6 => (if r_6.1 = 0 then (g219 7 0 r_6.2).bind fun S_9 => gj224_262 x1 x2 x3 S_9 else gj224_262 x1 x2 x3 r_6.2)) else (g223 x1 2 x3 S).bind fun r_11 => (if r_11.1 = 0 then (g219 6 x3 r_11.2).bind fun S_14 => gj224_230 (gl224_203 n) x1 x2 x3 S_14 else gj224_230 (gl224_203 n) x1 x2 x3 r_11.2))) = some r := hf
    unfold l224_203
    refine EX.bd (H.gR 9) ?_
    obtain ⟨v_1, ev_1, hf⟩ := x_bind hf
    refine EX.bd (H.aI (by decide) ev_1) ?_
    by_cases c_2 : v_1 ≤ x3
    · replace hf := x_pos c_2 hf
      refine EX.pos c_2 ?_
      refine EX.bd (H.gR 6) ?_
      obtain ⟨v_3, ev_3, hf⟩ := x_bind hf
      refine EX.bd (H.aZ (by decide) ev_3) ?_
      by_cases c_4 : v_3 = 0
      · replace hf := x_pos c_4 hf
        refine EX.pos c_4 ?_
        exact EX.uS F (gj224_262_ok H hf)
      · replace hf := x_neg c_4 hf
        refine EX.neg c_4 ?_
        have Hc_ := H.cv
        obtain ⟨r_6, er_6, hf⟩ := x_bind hf
        obtain ⟨h_5, eh_5, H, F_⟩ := g223_ok H er_6
        refine EX.bd Hc_ ?_
        refine EX.bd eh_5 ?_
        dsimp only
        replace F := F.tr F_
        by_cases c_7 : r_6.1 = 0
        · replace hf := x_pos c_7 hf
          refine EX.pos c_7 ?_
          have Hc_ := H.cv
          obtain ⟨S_9, eS_9, hf⟩ := x_bind hf
          obtain ⟨h_8, eh_8, H, F_⟩ := g219_ok H eS_9
          refine EX.bd Hc_ ?_
          refine EX.bd eh_8 ?_
          replace F := F.tr F_
          exact EX.uS F (gj224_262_ok H hf)
        · replace hf := x_neg c_7 hf
          refine EX.neg c_7 ?_
          exact EX.uS F (gj224_262_ok H hf)
    · replace hf := x_neg c_2 hf
      refine EX.neg c_2 ?_
      have Hc_ := H.cv
      obtain ⟨r_11, er_11, hf⟩ := x_bind hf
      obtain ⟨h_10, eh_10, H, F_⟩ := g223_ok H er_11
      refine EX.bd Hc_ ?_
      refine EX.bd eh_10 ?_
      dsimp only
      replace F := F.tr F_
      by_cases c_12 : r_11.1 = 0
      · replace hf := x_pos c_12 hf
        refine EX.pos c_12 ?_
        have Hc_ := H.cv
        obtain ⟨S_14, eS_14, hf⟩ := x_bind hf
        obtain ⟨h_13, eh_13, H, F_⟩ := g219_ok H eS_14
        refine EX.bd Hc_ ?_
        refine EX.bd eh_13 ?_
        replace F := F.tr F_
        exact EX.uS F (gj224_230_ok (k203 := (gl224_203 n)) (f203 := (l224_203 n)) ih H hf)
      · replace hf := x_neg c_12 hf
        refine EX.neg c_12 ?_
        exact EX.uS F (gj224_230_ok (k203 := (gl224_203 n)) (f203 := (l224_203 n)) ih H hf)
theorem gj224_189_ok {m : Nat} {k43 : Int32 → Int32 → Int32 → mS → Option (Int32 × mS)} {f43 : Option Nat → Int32 → Int32 → Int32 → xH → Option (Int32 × xH)} (hk43 : ∀ {h : xH} {S : mS} {x1 : Int32} {x2 : Int32} {x3 : Int32} {r : (Int32 × mS)}, RF h m S → k43 x1 x2 x3 S = some r → EX (f43 (some m) x1 x2 x3 h) (fun z => (r.1, z)) (QS m h r.2)) {k52 : Int32 → Int32 → Int32 → Int32 → mS → Option (Int32 × mS)} {f52 : Option Nat → Int32 → Int32 → Int32 → Int32 → xH → Option (Int32 × xH)} (hk52 : ∀ {h : xH} {S : mS} {x1 : Int32} {x2 : Int32} {x3 : Int32} {x4 : Int32} {r : (Int32 × mS)}, RF h m S → k52 x1 x2 x3 x4 S = some r → EX (f52 (some m) x1 x2 x3 x4 h) (fun z => (r.1, z)) (QS m h r.2)) {h : xH} {S : mS} {x1 : Int32} {x2 : Int32} {x3 : Int32} {x4 : Int32} {x5 : Int32} {x6 : Int32} {r : (Int32 × mS)} (H : RF h m S) (hf : gj224_189 k43 k52 x1 x2 x3 x4 x5 x6 S = some r) : EX (j224_189 f43 f52 (some m) x1 x2 x3 x4 x5 x6 h) (fun z => (r.1, z)) (QS m h r.2) := by
  have F := FM.rfl' (m := m) (h := h)
  unfold gj224_189 at hf
  unfold j224_189
  exact EX.uS F (hk52 H hf)
theorem gj224_170_ok {m : Nat} {k43 : Int32 → Int32 → Int32 → mS → Option (Int32 × mS)} {f43 : Option Nat → Int32 → Int32 → Int32 → xH → Option (Int32 × xH)} (hk43 : ∀ {h : xH} {S : mS} {x1 : Int32} {x2 : Int32} {x3 : Int32} {r : (Int32 × mS)}, RF h m S → k43 x1 x2 x3 S = some r → EX (f43 (some m) x1 x2 x3 h) (fun z => (r.1, z)) (QS m h r.2)) {k52 : Int32 → Int32 → Int32 → Int32 → mS → Option (Int32 × mS)} {f52 : Option Nat → Int32 → Int32 → Int32 → Int32 → xH → Option (Int32 × xH)} (hk52 : ∀ {h : xH} {S : mS} {x1 : Int32} {x2 : Int32} {x3 : Int32} {x4 : Int32} {r : (Int32 × mS)}, RF h m S → k52 x1 x2 x3 x4 S = some r → EX (f52 (some m) x1 x2 x3 x4 h) (fun z => (r.1, z)) (QS m h r.2)) {h : xH} {S : mS} {x1 : Int32} {x2 : Int32} {x3 : Int32} {x4 : Int32} {x5 : Int32} {s0 : Int32} {r : (Int32 × mS)} (H : RF h m S) (hf : gj224_170 k43 k52 x1 x2 x3 x4 x5 s0 S = some r) : EX (j224_170 f43 f52 (some m) x1 x2 x3 x4 x5 s0 h) (fun z => (r.1, z)) (QS m h r.2) := by
  have F := FM.rfl' (m := m) (h := h)
  unfold gj224_170 at hf
  unfold j224_170
  by_cases c_1 : s0 = 0
  · replace hf := x_pos c_1 hf
    refine EX.pos c_1 ?_
    exact EX.uS F (gj224_189_ok (k43 := k43) (f43 := f43) hk43 (k52 := k52) (f52 := f52) hk52 H hf)
  · replace hf := x_neg c_1 hf
    refine EX.neg c_1 ?_
    refine EX.bd (H.gR 20) ?_
    obtain ⟨v_2, ev_2, hf⟩ := x_bind hf
    refine EX.bd (H.aI (by decide) ev_2) ?_
    have Hc_ := H.cv
    obtain ⟨S_4, eS_4, hf⟩ := x_bind hf
    obtain ⟨h_3, eh_3, H, F_⟩ := g219_ok H eS_4
    refine EX.bd Hc_ ?_
    refine EX.bd eh_3 ?_
    replace F := F.tr F_
    exact EX.uS F (gj224_189_ok (k43 := k43) (f43 := f43) hk43 (k52 := k52) (f52 := f52) hk52 H hf)
theorem gj224_169_ok {m : Nat} {k43 : Int32 → Int32 → Int32 → mS → Option (Int32 × mS)} {f43 : Option Nat → Int32 → Int32 → Int32 → xH → Option (Int32 × xH)} (hk43 : ∀ {h : xH} {S : mS} {x1 : Int32} {x2 : Int32} {x3 : Int32} {r : (Int32 × mS)}, RF h m S → k43 x1 x2 x3 S = some r → EX (f43 (some m) x1 x2 x3 h) (fun z => (r.1, z)) (QS m h r.2)) {k52 : Int32 → Int32 → Int32 → Int32 → mS → Option (Int32 × mS)} {f52 : Option Nat → Int32 → Int32 → Int32 → Int32 → xH → Option (Int32 × xH)} (hk52 : ∀ {h : xH} {S : mS} {x1 : Int32} {x2 : Int32} {x3 : Int32} {x4 : Int32} {r : (Int32 × mS)}, RF h m S → k52 x1 x2 x3 x4 S = some r → EX (f52 (some m) x1 x2 x3 x4 h) (fun z => (r.1, z)) (QS m h r.2)) {h : xH} {S : mS} {x1 : Int32} {x2 : Int32} {x3 : Int32} {x4 : Int32} {x5 : Int32} {r : (Int32 × mS)} (H : RF h m S) (hf : gj224_169 k43 k52 x1 x2 x3 x4 x5 S = some r) : EX (j224_169 f43 f52 (some m) x1 x2 x3 x4 x5 h) (fun z => (r.1, z)) (QS m h r.2) := by
  have F := FM.rfl' (m := m) (h := h)
  unfold gj224_169 at hf
  unfold j224_169
  exact EX.uS F (gj224_170_ok (k43 := k43) (f43 := f43) hk43 (k52 := k52) (f52 := f52) hk52 H hf)
theorem gj224_141_ok {m : Nat} {k43 : Int32 → Int32 → Int32 → mS → Option (Int32 × mS)} {f43 : Option Nat → Int32 → Int32 → Int32 → xH → Option (Int32 × xH)} (hk43 : ∀ {h : xH} {S : mS} {x1 : Int32} {x2 : Int32} {x3 : Int32} {r : (Int32 × mS)}, RF h m S → k43 x1 x2 x3 S = some r → EX (f43 (some m) x1 x2 x3 h) (fun z => (r.1, z)) (QS m h r.2)) {k52 : Int32 → Int32 → Int32 → Int32 → mS → Option (Int32 × mS)} {f52 : Option Nat → Int32 → Int32 → Int32 → Int32 → xH → Option (Int32 × xH)} (hk52 : ∀ {h : xH} {S : mS} {x1 : Int32} {x2 : Int32} {x3 : Int32} {x4 : Int32} {r : (Int32 × mS)}, RF h m S → k52 x1 x2 x3 x4 S = some r → EX (f52 (some m) x1 x2 x3 x4 h) (fun z => (r.1, z)) (QS m h r.2)) {h : xH} {S : mS} {x1 : Int32} {x2 : Int32} {x3 : Int32} {x4 : Int32} {x5 : Int32} {r : (Int32 × mS)} (H : RF h m S) (hf : gj224_141 k43 k52 x1 x2 x3 x4 x5 S = some r) : EX (j224_141 f43 f52 (some m) x1 x2 x3 x4 x5 h) (fun z => (r.1, z)) (QS m h r.2) := by
  have F := FM.rfl' (m := m) (h := h)
  unfold gj224_141 at hf
  unfold j224_141
  exact EX.uS F (gj224_170_ok (k43 := k43) (f43 := f43) hk43 (k52 := k52) (f52 := f52) hk52 H hf)
theorem gj224_107_ok {m : Nat} {k43 : Int32 → Int32 → Int32 → mS → Option (Int32 × mS)} {f43 : Option Nat → Int32 → Int32 → Int32 → xH → Option (Int32 × xH)} (hk43 : ∀ {h : xH} {S : mS} {x1 : Int32} {x2 : Int32} {x3 : Int32} {r : (Int32 × mS)}, RF h m S → k43 x1 x2 x3 S = some r → EX (f43 (some m) x1 x2 x3 h) (fun z => (r.1, z)) (QS m h r.2)) {k52 : Int32 → Int32 → Int32 → Int32 → mS → Option (Int32 × mS)} {f52 : Option Nat → Int32 → Int32 → Int32 → Int32 → xH → Option (Int32 × xH)} (hk52 : ∀ {h : xH} {S : mS} {x1 : Int32} {x2 : Int32} {x3 : Int32} {x4 : Int32} {r : (Int32 × mS)}, RF h m S → k52 x1 x2 x3 x4 S = some r → EX (f52 (some m) x1 x2 x3 x4 h) (fun z => (r.1, z)) (QS m h r.2)) {h : xH} {S : mS} {x1 : Int32} {x2 : Int32} {x3 : Int32} {x4 : Int32} {x5 : Int32} {r : (Int32 × mS)} (H : RF h m S) (hf : gj224_107 k43 k52 x1 x2 x3 x4 x5 S = some r) : EX (j224_107 f43 f52 (some m) x1 x2 x3 x4 x5 h) (fun z => (r.1, z)) (QS m h r.2) := by
  have F := FM.rfl' (m := m) (h := h)
  unfold gj224_107 at hf
  unfold j224_107
  exact EX.uS F (gj224_170_ok (k43 := k43) (f43 := f43) hk43 (k52 := k52) (f52 := f52) hk52 H hf)
theorem gj224_103_ok {m : Nat} {k43 : Int32 → Int32 → Int32 → mS → Option (Int32 × mS)} {f43 : Option Nat → Int32 → Int32 → Int32 → xH → Option (Int32 × xH)} (hk43 : ∀ {h : xH} {S : mS} {x1 : Int32} {x2 : Int32} {x3 : Int32} {r : (Int32 × mS)}, RF h m S → k43 x1 x2 x3 S = some r → EX (f43 (some m) x1 x2 x3 h) (fun z => (r.1, z)) (QS m h r.2)) {k52 : Int32 → Int32 → Int32 → Int32 → mS → Option (Int32 × mS)} {f52 : Option Nat → Int32 → Int32 → Int32 → Int32 → xH → Option (Int32 × xH)} (hk52 : ∀ {h : xH} {S : mS} {x1 : Int32} {x2 : Int32} {x3 : Int32} {x4 : Int32} {r : (Int32 × mS)}, RF h m S → k52 x1 x2 x3 x4 S = some r → EX (f52 (some m) x1 x2 x3 x4 h) (fun z => (r.1, z)) (QS m h r.2)) {h : xH} {S : mS} {x1 : Int32} {x2 : Int32} {x3 : Int32} {x4 : Int32} {x5 : Int32} {r : (Int32 × mS)} (H : RF h m S) (hf : gj224_103 k43 k52 x1 x2 x3 x4 x5 S = some r) : EX (j224_103 f43 f52 (some m) x1 x2 x3 x4 x5 h) (fun z => (r.1, z)) (QS m h r.2) := by
  have F := FM.rfl' (m := m) (h := h)
  unfold gj224_103 at hf
  unfold j224_103
  exact EX.uS F (gj224_170_ok (k43 := k43) (f43 := f43) hk43 (k52 := k52) (f52 := f52) hk52 H hf)
theorem gl224_52_ok {m : Nat} {k43 : Int32 → Int32 → Int32 → mS → Option (Int32 × mS)} {f43 : Option Nat → Int32 → Int32 → Int32 → xH → Option (Int32 × xH)} (hk43 : ∀ {h : xH} {S : mS} {x1 : Int32} {x2 : Int32} {x3 : Int32} {r : (Int32 × mS)}, RF h m S → k43 x1 x2 x3 S = some r → EX (f43 (some m) x1 x2 x3 h) (fun z => (r.1, z)) (QS m h r.2)) : ∀ (n : Nat) {h : xH} {S : mS} {x1 : Int32} {x2 : Int32} {x3 : Int32} {x4 : Int32} {r : (Int32 × mS)} (H : RF h m S), gl224_52 k43 n x1 x2 x3 x4 S = some r → EX (l224_52 f43 n (some m) x1 x2 x3 x4 h) (fun z => (r.1, z)) (QS m h r.2) := by
  intro n
  induction n with
  | zero => intros; rename_i hf; cases hf
  | succ n ih =>
    intro h S x1 x2 x3 x4 r H hf
    have F := FM.rfl' (m := m) (h := h)
    replace hf : ((sLd S 14 x1).bind fun v_1 => (if v_1 ≤ x4 then k43 x1 x2 (x3 + 1) S else (if x3 = 3 then (sLd S 16 ((24 * x1) + x4)).bind fun v_4 => (if v_4 = 7 then (if x2 = (-1) then gj224_103 k43 (gl224_52 k43 n) x1 x2 x3 x4 ((24 * x1) + x4) S else (g160 x2 S).bind fun r_8 => (if r_8.1 = (-1) then gj224_103 k43 (gl224_52 k43 n) x1 x2 x3 x4 ((24 * x1) + x4) r_8.2 else gj224_107 k43 (gl224_52 k43 n) x1 x2 x3 x4 ((24 * x1) + x4) r_8.2)) else gj224_107 k43 (gl224_52 k43 n) x1 x2 x3 x4 ((24 * x1) + x4) S) else (if x3 = 4 then (sLd S 16 ((24 * x1) + x4)).bind fun v_11 => (if v_11 = 2 then (g220 x1 ((24 * x1) + x4) S).bind fun r_14 => (if r_14.1 = 0 then gj224_170 k43 (gl224_52 k43 n) x1 x2 x3 x4 ((24 * x1) + x4) 1 r_14.2 else gj224_141 k43 (gl224_52 k43 n) x1 x2 x3 x4 ((24 * x1) + x4) r_14.2) else gj224_141 k43 (gl224_52 k43 n) x1 x2 x3 x4 ((24 * x1) + x4) S) else (sLd S 16 ((24 * x1) + x4)).bind fun v_16 => (if v_16 = 3 then (sLd S 6 x1).bind fun v_18 => (if v_18 = 0 then gj224_170 k43 (gl224_52 k43 n) x1 x2 x3 x4 ((24 * x1) + x4) 1 S else gj224_169 k43 (gl224_52 k43 n) x1 x2 x3 x4 ((24 * x1) + x4) S) else gj224_169 k43 (gl224_52 k43 n) x1 x2 x3 x4 ((24 * x1) + x4) S))))) = some r := hf
    unfold l224_52
    refine EX.bd (H.gR 14) ?_
    obtain ⟨v_1, ev_1, hf⟩ := x_bind hf
    refine EX.bd (H.aI (by decide) ev_1) ?_
    by_cases c_2 : v_1 ≤ x4
    · replace hf := x_pos c_2 hf
      refine EX.pos c_2 ?_
      exact EX.uS F (hk43 H hf)
    · replace hf := x_neg c_2 hf
      refine EX.neg c_2 ?_
      by_cases c_3 : x3 = 3
      · replace hf := x_pos c_3 hf
        refine EX.pos c_3 ?_
        refine EX.bd (H.gR 16) ?_
        obtain ⟨v_4, ev_4, hf⟩ := x_bind hf
        refine EX.bd (H.aI (by decide) ev_4) ?_
        by_cases c_5 : v_4 = 7
        · replace hf := x_pos c_5 hf
          refine EX.pos c_5 ?_
          by_cases c_6 : x2 = (-1)
          · replace hf := x_pos c_6 hf
            refine EX.pos c_6 ?_
            exact EX.uS F (gj224_103_ok (k43 := k43) (f43 := f43) hk43 (k52 := (gl224_52 k43 n)) (f52 := (l224_52 f43 n)) ih H hf)
          · replace hf := x_neg c_6 hf
            refine EX.neg c_6 ?_
            have Hc_ := H.cv
            obtain ⟨r_8, er_8, hf⟩ := x_bind hf
            obtain ⟨h_7, eh_7, H, F_⟩ := g160_ok H er_8
            refine EX.bd Hc_ ?_
            refine EX.bd eh_7 ?_
            dsimp only
            replace F := F.tr F_
            by_cases c_9 : r_8.1 = (-1)
            · replace hf := x_pos c_9 hf
              refine EX.pos c_9 ?_
              exact EX.uS F (gj224_103_ok (k43 := k43) (f43 := f43) hk43 (k52 := (gl224_52 k43 n)) (f52 := (l224_52 f43 n)) ih H hf)
            · replace hf := x_neg c_9 hf
              refine EX.neg c_9 ?_
              exact EX.uS F (gj224_107_ok (k43 := k43) (f43 := f43) hk43 (k52 := (gl224_52 k43 n)) (f52 := (l224_52 f43 n)) ih H hf)
        · replace hf := x_neg c_5 hf
          refine EX.neg c_5 ?_
          exact EX.uS F (gj224_107_ok (k43 := k43) (f43 := f43) hk43 (k52 := (gl224_52 k43 n)) (f52 := (l224_52 f43 n)) ih H hf)
      · replace hf := x_neg c_3 hf
        refine EX.neg c_3 ?_
        by_cases c_10 : x3 = 4
        · replace hf := x_pos c_10 hf
          refine EX.pos c_10 ?_
          refine EX.bd (H.gR 16) ?_
          obtain ⟨v_11, ev_11, hf⟩ := x_bind hf
          refine EX.bd (H.aI (by decide) ev_11) ?_
          by_cases c_12 : v_11 = 2
          · replace hf := x_pos c_12 hf
            refine EX.pos c_12 ?_
            have Hc_ := H.cv
            obtain ⟨r_14, er_14, hf⟩ := x_bind hf
            obtain ⟨h_13, eh_13, H, F_⟩ := g220_ok H er_14
            refine EX.bd Hc_ ?_
            refine EX.bd eh_13 ?_
            dsimp only
            replace F := F.tr F_
            by_cases c_15 : r_14.1 = 0
            · replace hf := x_pos c_15 hf
              refine EX.pos c_15 ?_
              exact EX.uS F (gj224_170_ok (k43 := k43) (f43 := f43) hk43 (k52 := (gl224_52 k43 n)) (f52 := (l224_52 f43 n)) ih H hf)
            · replace hf := x_neg c_15 hf
              refine EX.neg c_15 ?_
              exact EX.uS F (gj224_141_ok (k43 := k43) (f43 := f43) hk43 (k52 := (gl224_52 k43 n)) (f52 := (l224_52 f43 n)) ih H hf)
          · replace hf := x_neg c_12 hf
            refine EX.neg c_12 ?_
            exact EX.uS F (gj224_141_ok (k43 := k43) (f43 := f43) hk43 (k52 := (gl224_52 k43 n)) (f52 := (l224_52 f43 n)) ih H hf)
        · replace hf := x_neg c_10 hf
          refine EX.neg c_10 ?_
          refine EX.bd (H.gR 16) ?_
          obtain ⟨v_16, ev_16, hf⟩ := x_bind hf
          refine EX.bd (H.aI (by decide) ev_16) ?_
          by_cases c_17 : v_16 = 3
          · replace hf := x_pos c_17 hf
            refine EX.pos c_17 ?_
            refine EX.bd (H.gR 6) ?_
            obtain ⟨v_18, ev_18, hf⟩ := x_bind hf
            refine EX.bd (H.aZ (by decide) ev_18) ?_
            by_cases c_19 : v_18 = 0
            · replace hf := x_pos c_19 hf
              refine EX.pos c_19 ?_
              exact EX.uS F (gj224_170_ok (k43 := k43) (f43 := f43) hk43 (k52 := (gl224_52 k43 n)) (f52 := (l224_52 f43 n)) ih H hf)
            · replace hf := x_neg c_19 hf
              refine EX.neg c_19 ?_
              exact EX.uS F (gj224_169_ok (k43 := k43) (f43 := f43) hk43 (k52 := (gl224_52 k43 n)) (f52 := (l224_52 f43 n)) ih H hf)
          · replace hf := x_neg c_17 hf
            refine EX.neg c_17 ?_
            exact EX.uS F (gj224_169_ok (k43 := k43) (f43 := f43) hk43 (k52 := (gl224_52 k43 n)) (f52 := (l224_52 f43 n)) ih H hf)
theorem gl224_43_ok {m : Nat} : ∀ (n : Nat) {h : xH} {S : mS} {x1 : Int32} {x2 : Int32} {x3 : Int32} {r : (Int32 × mS)} (H : RF h m S), gl224_43 n x1 x2 x3 S = some r → EX (l224_43 n (some m) x1 x2 x3 h) (fun z => (r.1, z)) (QS m h r.2) := by
  intro n
  induction n with
  | zero => intros; rename_i hf; cases hf
  | succ n ih =>
    intro h S x1 x2 x3 r H hf
    have F := FM.rfl' (m := m) (h := h)
    replace hf : ((if 6 ≤ x3 then gl224_203 xFuel x1 x2 0 S else gl224_52 (gl224_43 n) xFuel x1 x2 x3 0 S)) = some r := hf
    unfold l224_43
    by_cases c_1 : 6 ≤ x3
    · replace hf := x_pos c_1 hf
      refine EX.pos c_1 ?_
      exact EX.uS F (gl224_203_ok xFuel H hf)
    · replace hf := x_neg c_1 hf
      refine EX.neg c_1 ?_
      exact EX.uS F (gl224_52_ok (k43 := (gl224_43 n)) (f43 := (l224_43 n)) ih xFuel H hf)
theorem gj224_30_ok {m : Nat} {h : xH} {S : mS} {x1 : Int32} {r : (Int32 × mS)} (H : RF h m S) (hf : gj224_30 x1 S = some r) : EX (j224_30 (some m) x1 h) (fun z => (r.1, z)) (QS m h r.2) := by
  have F := FM.rfl' (m := m) (h := h)
  unfold gj224_30 at hf
  unfold j224_30
  have Hc_ := H.cv
  obtain ⟨S_2, eS_2, hf⟩ := x_bind hf
  obtain ⟨h_1, eh_1, H, F_⟩ := g222_ok H eS_2
  refine EX.bd Hc_ ?_
  refine EX.bd eh_1 ?_
  replace F := F.tr F_
  have Hc_ := H.cv
  obtain ⟨r_4, er_4, hf⟩ := x_bind hf
  obtain ⟨h_3, eh_3, H, F_⟩ := g156_ok H er_4
  refine EX.bd Hc_ ?_
  refine EX.bd eh_3 ?_
  dsimp only
  replace F := F.tr F_
  exact EX.uS F (gl224_43_ok xFuel H hf)
theorem g224_ok {h : xH} {m : Nat} {S : mS} {x1 : Int32} {r : (Int32 × mS)} (H : RF h m S) (hf : g224 x1 S = some r) : EX (fn224 (some m) x1 h) (fun z => (r.1, z)) (QS m h r.2) := by
  have F := FM.rfl' (m := m) (h := h)
  unfold g224 at hf
  unfold fn224
  have Hc_ := H.cv
  obtain ⟨r_2, er_2, hf⟩ := x_bind hf
  obtain ⟨h_1, eh_1, H, F_⟩ := g148_ok H er_2
  refine EX.bd Hc_ ?_
  refine EX.bd eh_1 ?_
  dsimp only
  replace F := F.tr F_
  by_cases c_3 : r_2.1 = 0
  · replace hf := x_pos c_3 hf
    refine EX.pos c_3 ?_
    obtain rfl := Option.some.inj hf
    exact ⟨_, rfl, H, F⟩
  · replace hf := x_neg c_3 hf
    refine EX.neg c_3 ?_
    obtain ⟨S_4, eS_4, hf⟩ := x_bind hf
    obtain ⟨h_5, eh_5, H, F_⟩ := H.pF 73 (xfit_int _) eS_4
    refine EX.bd eh_5 ?_
    replace F := F.tr F_
    have Hc_ := H.cv
    obtain ⟨r_7, er_7, hf⟩ := x_bind hf
    obtain ⟨h_6, eh_6, H, F_⟩ := g160_ok H er_7
    refine EX.bd Hc_ ?_
    refine EX.bd eh_6 ?_
    dsimp only
    replace F := F.tr F_
    by_cases c_8 : r_7.1 = (-1)
    · replace hf := x_pos c_8 hf
      refine EX.pos c_8 ?_
      have Hc_ := H.cv
      obtain ⟨S_10, eS_10, hf⟩ := x_bind hf
      obtain ⟨h_9, eh_9, H, F_⟩ := g219_ok H eS_10
      refine EX.bd Hc_ ?_
      refine EX.bd eh_9 ?_
      replace F := F.tr F_
      exact EX.uS F (gj224_30_ok H hf)
    · replace hf := x_neg c_8 hf
      refine EX.neg c_8 ?_
      exact EX.uS F (gj224_30_ok H hf)
end
