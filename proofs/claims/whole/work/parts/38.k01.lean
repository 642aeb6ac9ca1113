section
theorem g156_ok {h : xH} {m : Nat} {S : mS} {x1 : Int32} {r : (Int32 × mS)} (H : RF h m S) (hf : g156 x1 S = some r) : EX (fn156 (some m) x1 h) (fun z => (r.1, z)) (QS m h r.2) := by
  have F := FM.rfl' (m := m) (h := h)
  unfold g156 at hf
  unfold fn156
  refine EX.bd (H.gR 3) ?_
  obtain ⟨v_1, ev_1, hf⟩ := x_bind hf
  refine EX.bd (H.aZ (by decide) ev_1) ?_
  by_cases c_2 : v_1 = 0
  · replace hf := x_pos c_2 hf
    refine EX.pos c_2 ?_
    refine EX.bd (H.gR 5) ?_
    refine EX.bd (H.gR 4) ?_
    obtain ⟨v_3, ev_3, hf⟩ := x_bind hf
    refine EX.bd (H.aI (by decide) ev_3) ?_
    obtain ⟨v_4, ev_4, hf⟩ := x_bind hf
    refine EX.bd (H.aI (by decide) ev_4) ?_
    refine EX.bd (H.gR 7) ?_
    refine EX.bd (H.gR 8) ?_
    obtain ⟨v_5, ev_5, hf⟩ := x_bind hf
    refine EX.bd (H.aI (by decide) ev_5) ?_
    have Hc_ := H.cv
    obtain ⟨r_7, er_7, hf⟩ := x_bind hf
    obtain ⟨h_6, eh_6, H, F_⟩ := g157_ok H (by decide) er_7
    refine EX.bd Hc_ ?_
    refine EX.bd eh_6 ?_
    dsimp only
    replace F := F.tr F_
    obtain rfl := Option.some.inj hf
    exact ⟨_, rfl, H, F⟩
  · replace hf := x_neg c_2 hf
    refine EX.neg c_2 ?_
    obtain rfl := Option.some.inj hf
    exact ⟨_, rfl, H, F⟩
end
section
theorem gj159_37_ok {m : Nat} {k3 : Nat → Int32 → Int32 → Int32 → mS → Option (Int32 × mS)} {f3 : Option Nat → Option Nat → Int32 → Int32 → Int32 → xH → Option (Int32 × xH)} (hk3 : ∀ {h : xH} {S : mS} {q1 : Nat} {x2 : Int32} {x3 : Int32} {x4 : Int32} {r : (Int32 × mS)}, RF h m S → mQ q1 → k3 q1 x2 x3 x4 S = some r → EX (f3 (some m) (some (m + mO q1)) x2 x3 x4 h) (fun z => (r.1, z)) (QS m h r.2)) {h : xH} {S : mS} {q1 : Nat} {x2 : Int32} {x3 : Int32} {x4 : Int32} {r : (Int32 × mS)} (H : RF h m S) (tq1 : mQ q1) (hf : gj159_37 k3 q1 x2 x3 x4 S = some r) : EX (j159_37 f3 (some m) (some (m + mO q1)) x2 x3 x4 h) (fun z => (r.1, z)) (QS m h r.2) := by
  have F := FM.rfl' (m := m) (h := h)
  unfold gj159_37 at hf
  unfold j159_37
  exact EX.uS F (hk3 H tq1 hf)
theorem gl159_3_ok {m : Nat} : ∀ (n : Nat) {h : xH} {S : mS} {q1 : Nat} {x2 : Int32} {x3 : Int32} {x4 : Int32} {r : (Int32 × mS)} (H : RF h m S) (tq1 : mQ q1), gl159_3 n q1 x2 x3 x4 S = some r → EX (l159_3 n (some m) (some (m + mO q1)) x2 x3 x4 h) (fun z => (r.1, z)) (QS m h r.2) := by
  intro n
  induction n with
  | zero => intros; rename_i hf; cases hf
  | succ n ih =>
    intro h S q1 x2 x3 x4 r H tq1 hf
    have F := FM.rfl' (m := m) (h := h)
    replace hf : ((if (S.1 2) ≤ x4 then some ((-1), S) else (sLd S 3 x4).bind fun v_2 => (if v_2 = 0 then gj159_37 (gl159_3 n) q1 x2 x3 x4 S else (g158 x4 q1 x2 x3 S).bind fun r_5 => (if r_5.1 = 0 then gj159_37 (gl159_3 n) q1 x2 x3 x4 r_5.2 else some (x4, r_5.2))))) = some r := hf
    unfold l159_3
    refine EX.bd (H.gI 2) ?_
    by_cases c_1 : (S.1 2) ≤ x4
    · replace hf := x_pos c_1 hf
      refine EX.pos c_1 ?_
      obtain rfl := Option.some.inj hf
      exact ⟨_, rfl, H, F⟩
    · replace hf := x_neg c_1 hf
      refine EX.neg c_1 ?_
      refine EX.bd (H.gR 3) ?_
      obtain ⟨v_2, ev_2, hf⟩ := x_bind hf
      refine EX.bd (H.aZ (by decide) ev_2) ?_
      by_cases c_3 : v_2 = 0
      · replace hf := x_pos c_3 hf
        refine EX.pos c_3 ?_
        exact EX.uS F (gj159_37_ok (k3 := (gl159_3 n)) (f3 := (l159_3 n)) ih H tq1 hf)
      · replace hf := x_neg c_3 hf
        refine EX.neg c_3 ?_
        have Hc_ := H.cv
        obtain ⟨r_5, er_5, hf⟩ := x_bind hf
        obtain ⟨h_4, eh_4, H, F_⟩ := g158_ok H tq1 er_5
        refine EX.bd Hc_ ?_
        refine EX.bd eh_4 ?_
        dsimp only
        replace F := F.tr F_
        by_cases c_6 : r_5.1 = 0
        · replace hf := x_pos c_6 hf
          refine EX.pos c_6 ?_
          exact EX.uS F (gj159_37_ok (k3 := (gl159_3 n)) (f3 := (l159_3 n)) ih H tq1 hf)
        · replace hf := x_neg c_6 hf
          refine EX.neg c_6 ?_
          obtain rfl := Option.some.inj hf
          exact ⟨_, rfl, H, F⟩
theorem g159_ok {h : xH} {m : Nat} {S : mS} {q1 : Nat} {x2 : Int32} {x3 : Int32} {r : (Int32 × mS)} (H : RF h m S) (tq1 : mQ q1) (hf : g159 q1 x2 x3 S = some r) : EX (fn159 (some m) (some (m + mO q1)) x2 x3 h) (fun z => (r.1, z)) (QS m h r.2) := by
  have F := FM.rfl' (m := m) (h := h)
  unfold g159 at hf
  unfold fn159
  exact EX.uS F (gl159_3_ok xFuel H tq1 hf)
end
section
theorem gj160_26_ok {m : Nat} {h : xH} {S : mS} {x1 : Int32} {x2 : Int32} {r : (Int32 × mS)} (H : RF h m S) (hf : gj160_26 x1 x2 S = some r) : EX (j160_26 (some m) x1 x2 h) (fun z => (r.1, z)) (QS m h r.2) := by
  have F := FM.rfl' (m := m) (h := h)
  unfold gj160_26 at hf
  unfold j160_26
  obtain rfl := Option.some.inj hf
  exact ⟨_, rfl, H, F⟩
theorem gl160_2_ok {m : Nat} : ∀ (n : Nat) {h : xH} {S : mS} {x1 : Int32} {x2 : Int32} {r : (Int32 × mS)} (H : RF h m S), gl160_2 n x1 x2 S = some r → EX (l160_2 n (some m) x1 x2 h) (fun z => (r.1, z)) (QS m h r.2) := by
  intro n
  induction n with
  | zero => intros; rename_i hf; cases hf
  | succ n ih =>
    intro h S x1 x2 r H hf
    have F := FM.rfl' (m := m) (h := h)
    replace hf : ((if x2 = (-1) then gj160_26 x1 x2 S else (sLd S 13 x2).bind fun v_2 => (if v_2 = (-1) then (g156 x2 S).bind fun r_5 => gl160_2 n x1 r_5.1 r_5.2 else gj160_26 x1 x2 S))) = some r := hf
    unfold l160_2
    by_cases c_1 : x2 = (-1)
    · replace hf := x_pos c_1 hf
      refine EX.pos c_1 ?_
      exact EX.uS F (gj160_26_ok H hf)
    · replace hf := x_neg c_1 hf
      refine EX.neg c_1 ?_
      refine EX.bd (H.gR 13) ?_
      obtain ⟨v_2, ev_2, hf⟩ := x_bind hf
      refine EX.bd (H.aI (by decide) ev_2) ?_
      by_cases c_3 : v_2 = (-1)
      · replace hf := x_pos c_3 hf
        refine EX.pos c_3 ?_
        have Hc_ := H.cv
        obtain ⟨r_5, er_5, hf⟩ := x_bind hf
        obtain ⟨h_4, eh_4, H, F_⟩ := g156_ok H er_5
        refine EX.bd Hc_ ?_
        refine EX.bd eh_4 ?_
        dsimp only
        replace F := F.tr F_
        exact EX.uS F (ih H hf)
      · replace hf := x_neg c_3 hf
        refine EX.neg c_3 ?_
        exact EX.uS F (gj160_26_ok H hf)
theorem g160_ok {h : xH} {m : Nat} {S : mS} {x1 : Int32} {r : (Int32 × mS)} (H : RF h m S) (hf : g160 x1 S = some r) : EX (fn160 (some m) x1 h) (fun z => (r.1, z)) (QS m h r.2) := by
  have F := FM.rfl' (m := m) (h := h)
  unfold g160 at hf
  unfold fn160
  exact EX.uS F (gl160_2_ok xFuel H hf)
end
section
theorem gj161_26_ok {m : Nat} {h : xH} {S : mS} {x0 : Int32} {s0 : Int32} {r : (Int32 × mS)} (H : RF h m S) (hf : gj161_26 x0 s0 S = some r) : EX (j161_26 x0 s0 h) (fun z => (r.1, z)) (QS m h r.2) := by
  have F := FM.rfl' (m := m) (h := h)
  unfold gj161_26 at hf
  unfold j161_26
  by_cases c_1 : s0 &&& 1 = s0
  · replace hf := x_pos c_1 hf
    refine EX.pos c_1 ?_
    obtain rfl := Option.some.inj hf
    exact ⟨_, rfl, H, F⟩
  · replace hf := x_neg c_1 hf
    cases hf
theorem gj161_21_ok {m : Nat} {h : xH} {S : mS} {x0 : Int32} {r : (Int32 × mS)} (H : RF h m S) (hf : gj161_21 x0 S = some r) : EX (j161_21 x0 h) (fun z => (r.1, z)) (QS m h r.2) := by
  have F := FM.rfl' (m := m) (h := h)
  unfold gj161_21 at hf
  unfold j161_21
  exact EX.uS F (gj161_26_ok H hf)
theorem g161_ok {h : xH} {m : Nat} {S : mS} {x0 : Int32} {r : (Int32 × mS)} (H : RF h m S) (hf : g161 x0 S = some r) : EX (fn161 x0 h) (fun z => (r.1, z)) (QS m h r.2) := by
  have F := FM.rfl' (m := m) (h := h)
  unfold g161 at hf
  unfold fn161
  obtain ⟨r_2, er_2, hf⟩ := x_bind hf
  obtain ⟨h_1, eh_1, H, F_⟩ := g145_ok H er_2
  refine EX.bd eh_1 ?_
  dsimp only
  replace F := F.tr F_
  by_cases c_3 : r_2.1 = 0
  · replace hf := x_pos c_3 hf
    refine EX.pos c_3 ?_
    obtain ⟨r_5, er_5, hf⟩ := x_bind hf
    obtain ⟨h_4, eh_4, H, F_⟩ := g146_ok H er_5
    refine EX.bd eh_4 ?_
    dsimp only
    replace F := F.tr F_
    by_cases c_6 : r_5.1 = 0
    · replace hf := x_pos c_6 hf
      refine EX.pos c_6 ?_
      obtain ⟨r_8, er_8, hf⟩ := x_bind hf
      obtain ⟨h_7, eh_7, H, F_⟩ := g147_ok H er_8
      refine EX.bd eh_7 ?_
      dsimp only
      replace F := F.tr F_
      by_cases c_9 : r_8.1 = 0
      · replace hf := x_pos c_9 hf
        refine EX.pos c_9 ?_
        exact EX.uS F (gj161_26_ok H hf)
      · replace hf := x_neg c_9 hf
        refine EX.neg c_9 ?_
        exact EX.uS F (gj161_21_ok H hf)
    · replace hf := x_neg c_6 hf
      refine EX.neg c_6 ?_
      exact EX.uS F (gj161_21_ok H hf)
  · replace hf := x_neg c_3 hf
    refine EX.neg c_3 ?_
    exact EX.uS F (gj161_21_ok H hf)
end
section
theorem gj162_51_ok {m : Nat} {h : xH} {S : mS} {q0 : Nat} {x1 : Int32} {x2 : Int32} {x3 : Int32} {s0 : Int32} {r : (Int32 × mS)} (H : RF h m S) (tq0 : mQ q0) (hf : gj162_51 q0 x1 x2 x3 s0 S = some r) : EX (j162_51 (some (m + mO q0)) x1 x2 x3 s0 h) (fun z => (r.1, z)) (QS m h r.2) := by
  have F := FM.rfl' (m := m) (h := h)
  unfold gj162_51 at hf
  unfold j162_51
  obtain rfl := Option.some.inj hf
  exact ⟨_, rfl, H, F⟩
theorem gj162_46_ok {m : Nat} {h : xH} {S : mS} {q0 : Nat} {x1 : Int32} {x2 : Int32} {x3 : Int32} {r : (Int32 × mS)} (H : RF h m S) (tq0 : mQ q0) (hf : gj162_46 q0 x1 x2 x3 S = some r) : EX (j162_46 (some (m + mO q0)) x1 x2 x3 h) (fun z => (r.1, z)) (QS m h r.2) := by
  have F := FM.rfl' (m := m) (h := h)
  unfold gj162_46 at hf
  unfold j162_46
  exact EX.uS F (gj162_51_ok H tq0 hf)
theorem gj162_26_ok {m : Nat} {h : xH} {S : mS} {q0 : Nat} {x1 : Int32} {x2 : Int32} {x3 : Int32} {r : (Int32 × mS)} (H : RF h m S) (tq0 : mQ q0) (hf : gj162_26 q0 x1 x2 x3 S = some r) : EX (j162_26 (some (m + mO q0)) x1 x2 x3 h) (fun z => (r.1, z)) (QS m h r.2) := by
  have F := FM.rfl' (m := m) (h := h)
  unfold gj162_26 at hf
  unfold j162_26
  by_cases c_1 : x3 < 1
  · replace hf := x_pos c_1 hf
    refine EX.pos c_1 ?_
    exact EX.uS F (gj162_46_ok H tq0 hf)
  · replace hf := x_neg c_1 hf
    refine EX.neg c_1 ?_
    by_cases c_2 : 10 < x3
    · replace hf := x_pos c_2 hf
      refine EX.pos c_2 ?_
      exact EX.uS F (gj162_46_ok H tq0 hf)
    · replace hf := x_neg c_2 hf
      refine EX.neg c_2 ?_
      obtain ⟨v_3, ev_3, hf⟩ := x_bind hf
      refine EX.bd (H.aI tq0 ev_3) ?_
      obtain ⟨r_5, er_5, hf⟩ := x_bind hf
      obtain ⟨h_4, eh_4, H, F_⟩ := g147_ok H er_5
      refine EX.bd eh_4 ?_
      dsimp only
      replace F := F.tr F_
      by_cases c_6 : r_5.1 = 0
      · replace hf := x_pos c_6 hf
        refine EX.pos c_6 ?_
        exact EX.uS F (gj162_51_ok H tq0 hf)
      · replace hf := x_neg c_6 hf
        refine EX.neg c_6 ?_
        exact EX.uS F (gj162_46_ok H tq0 hf)
theorem gl162_2_ok {m : Nat} : ∀ (n : Nat) {h : xH} {S : mS} {q0 : Nat} {x1 : Int32} {x2 : Int32} {x3 : Int32} {r : (Int32 × mS)} (H : RF h m S) (tq0 : mQ q0), gl162_2 n q0 x1 x2 x3 S = some r → EX (l162_2 n (some (m + mO q0)) x1 x2 x3 h) (fun z => (r.1, z)) (QS m h r.2) := by
  intro n
  induction n with
  | zero => intros; rename_i hf; cases hf
  | succ n ih =>
    intro h S q0 x1 x2 x3 r H tq0 hf
    have F := FM.rfl' (m := m) (h := h)
    replace hf : ((if x2 ≤ (x1 + x3) then gj162_26 q0 x1 x2 x3 S else (sLd S q0 (x1 + x3)).bind fun v_2 => (g161 v_2 S).bind fun r_4 => (if r_4.1 = 0 then gj162_26 q0 x1 x2 x3 r_4.2 else gl162_2 n q0 x1 x2 (x3 + 1) r_4.2))) = some r := hf
    unfold l162_2
    by_cases c_1 : x2 ≤ (x1 + x3)
    · replace hf := x_pos c_1 hf
      refine EX.pos c_1 ?_
      exact EX.uS F (gj162_26_ok H tq0 hf)
    · replace hf := x_neg c_1 hf
      refine EX.neg c_1 ?_
      obtain ⟨v_2, ev_2, hf⟩ := x_bind hf
      refine EX.bd (H.aI tq0 ev_2) ?_
      obtain ⟨r_4, er_4, hf⟩ := x_bind hf
      obtain ⟨h_3, eh_3, H, F_⟩ := g161_ok H er_4
      refine EX.bd eh_3 ?_
      dsimp only
      replace F := F.tr F_
      by_cases c_5 : r_4.1 = 0
      · replace hf := x_pos c_5 hf
        refine EX.pos c_5 ?_
        exact EX.uS F (gj162_26_ok H tq0 hf)
      · replace hf := x_neg c_5 hf
        refine EX.neg c_5 ?_
        exact EX.uS F (ih H tq0 hf)
theorem g162_ok {h : xH} {m : Nat} {S : mS} {q0 : Nat} {x1 : Int32} {x2 : Int32} {r : (Int32 × mS)} (H : RF h m S) (tq0 : mQ q0) (hf : g162 q0 x1 x2 S = some r) : EX (fn162 (some (m + mO q0)) x1 x2 h) (fun z => (r.1, z)) (QS m h r.2) := by
  have F := FM.rfl' (m := m) (h := h)
  unfold g162 at hf
  unfold fn162
  exact EX.uS F (gl162_2_ok xFuel H tq0 hf)
end
section
theorem gj163_57_ok {m : Nat} {h : xH} {S : mS} {q0 : Nat} {x1 : Int32} {x2 : Int32} {x3 : Int32} {x4 : Int32} {s0 : Int32} {r : (Int32 × mS)} (H : RF h m S) (tq0 : mQ q0) (hf : gj163_57 q0 x1 x2 x3 x4 s0 S = some r) : EX (j163_57 (some (m + mO q0)) x1 x2 x3 x4 s0 h) (fun z => (r.1, z)) (QS m h r.2) := by
  have F := FM.rfl' (m := m) (h := h)
  unfold gj163_57 at hf
  unfold j163_57
  obtain rfl := Option.some.inj hf
  exact ⟨_, rfl, H, F⟩
theorem gj163_28_ok {m : Nat} {h : xH} {S : mS} {q0 : Nat} {x1 : Int32} {x2 : Int32} {x3 : Int32} {r : (Int32 × mS)} (H : RF h m S) (tq0 : mQ q0) (hf : gj163_28 q0 x1 x2 x3 S = some r) : EX (j163_28 (some (m + mO q0)) x1 x2 x3 h) (fun z => (r.1, z)) (QS m h r.2) := by
  have F := FM.rfl' (m := m) (h := h)
  unfold gj163_28 at hf
  unfold j163_28
  obtain rfl := Option.some.inj hf
  exact ⟨_, rfl, H, F⟩
theorem g163_ok {h : xH} {m : Nat} {S : mS} {q0 : Nat} {x1 : Int32} {x2 : Int32} {r : (Int32 × mS)} (H : RF h m S) (tq0 : mQ q0) (hf : g163 q0 x1 x2 S = some r) : EX (fn163 (some (m + mO q0)) x1 x2 h) (fun z => (r.1, z)) (QS m h r.2) := by
  have F := FM.rfl' (m := m) (h := h)
  unfold g163 at hf
  unfold fn163
  obtain ⟨r_2, er_2, hf⟩ := x_bind hf
  obtain ⟨h_1, eh_1, H, F_⟩ := g162_ok H tq0 er_2
  refine EX.bd eh_1 ?_
  dsimp only
  replace F := F.tr F_
  by_cases c_3 : r_2.1 = 0
  · replace hf := x_pos c_3 hf
    refine EX.pos c_3 ?_
    exact EX.uS F (gj163_28_ok H tq0 hf)
  · replace hf := x_neg c_3 hf
    refine EX.neg c_3 ?_
    by_cases c_4 : x2 ≤ (x1 + r_2.1)
    · replace hf := x_pos c_4 hf
      refine EX.pos c_4 ?_
      exact EX.uS F (gj163_28_ok H tq0 hf)
    · replace hf := x_neg c_4 hf
      refine EX.neg c_4 ?_
      obtain ⟨v_5, ev_5, hf⟩ := x_bind hf
      refine EX.bd (H.aI tq0 ev_5) ?_
      by_cases c_6 : v_5 = 46
      · replace hf := x_pos c_6 hf
        refine EX.pos c_6 ?_
        obtain ⟨r_8, er_8, hf⟩ := x_bind hf
        obtain ⟨h_7, eh_7, H, F_⟩ := g162_ok H tq0 er_8
        refine EX.bd eh_7 ?_
        dsimp only
        replace F := F.tr F_
        by_cases c_9 : r_8.1 = 0
        · replace hf := x_pos c_9 hf
          refine EX.pos c_9 ?_
          exact EX.uS F (gj163_57_ok H tq0 hf)
        · replace hf := x_neg c_9 hf
          refine EX.neg c_9 ?_
          exact EX.uS F (gj163_57_ok H tq0 hf)
      · replace hf := x_neg c_6 hf
        refine EX.neg c_6 ?_
        exact EX.uS F (gj163_28_ok H tq0 hf)
end
section
theorem gj164_137_ok {m : Nat} {h : xH} {S : mS} {x1 : Int32} {q2 : Nat} {x3 : Int32} {x4 : Int32} {x5 : Int32} {x6 : Int32} {x7 : Int32} {x8 : Int32} {s0 : Int32} {r : (Int32 × mS)} (H : RF h m S) (tq2 : mQ q2) (hf : gj164_137 x1 q2 x3 x4 x5 x6 x7 x8 s0 S = some r) : EX (j164_137 (some m) x1 (some (m + mO q2)) x3 x4 x5 x6 x7 x8 s0 h) (fun z => (r.1, z)) (QS m h r.2) := by
  have F := FM.rfl' (m := m) (h := h)
  unfold gj164_137 at hf
  unfold j164_137
  obtain rfl := Option.some.inj hf
  exact ⟨_, rfl, H, F⟩
theorem gj164_117_ok {m : Nat} {h : xH} {S : mS} {x1 : Int32} {q2 : Nat} {x3 : Int32} {x4 : Int32} {x5 : Int32} {x6 : Int32} {x7 : Int32} {x8 : Int32} {r : (Int32 × mS)} (H : RF h m S) (tq2 : mQ q2) (hf : gj164_117 x1 q2 x3 x4 x5 x6 x7 x8 S = some r) : EX (j164_117 (some m) x1 (some (m + mO q2)) x3 x4 x5 x6 x7 x8 h) (fun z => (r.1, z)) (QS m h r.2) := by
  have F := FM.rfl' (m := m) (h := h)
  unfold gj164_117 at hf
  unfold j164_117
  exact EX.uS F (gj164_137_ok H tq2 hf)
theorem gj164_91_ok {m : Nat} {h : xH} {S : mS} {x1 : Int32} {q2 : Nat} {x3 : Int32} {x4 : Int32} {x5 : Int32} {x6 : Int32} {s0 : Int32} {r : (Int32 × mS)} (H : RF h m S) (tq2 : mQ q2) (hf : gj164_91 x1 q2 x3 x4 x5 x6 s0 S = some r) : EX (j164_91 (some m) x1 (some (m + mO q2)) x3 x4 x5 x6 s0 h) (fun z => (r.1, z)) (QS m h r.2) := by
  have F := FM.rfl' (m := m) (h := h)
  unfold gj164_91 at hf
  unfold j164_91
  by_cases c_1 : s0 = (-1)
  · replace hf := x_pos c_1 hf
    refine EX.pos c_1 ?_
    exact EX.uS F (gj164_117_ok H tq2 hf)
  · replace hf := x_neg c_1 hf
    refine EX.neg c_1 ?_
    obtain ⟨v_2, ev_2, hf⟩ := x_bind hf
    refine EX.bd (H.aI tq2 ev_2) ?_
    obtain ⟨r_4, er_4, hf⟩ := x_bind hf
    obtain ⟨h_3, eh_3, H, F_⟩ := g146_ok H er_4
    refine EX.bd eh_3 ?_
    dsimp only
    replace F := F.tr F_
    by_cases c_5 : r_4.1 = 0
    · replace hf := x_pos c_5 hf
      refine EX.pos c_5 ?_
      exact EX.uS F (gj164_117_ok H tq2 hf)
    · replace hf := x_neg c_5 hf
      refine EX.neg c_5 ?_
      have Hc_ := H.cv
      obtain ⟨r_7, er_7, hf⟩ := x_bind hf
      obtain ⟨h_6, eh_6, H, F_⟩ := g157_ok H tq2 er_7
      refine EX.bd Hc_ ?_
      refine EX.bd eh_6 ?_
      dsimp only
      replace F := F.tr F_
      exact EX.uS F (gj164_137_ok H tq2 hf)
theorem gj164_69_ok {m : Nat} {h : xH} {S : mS} {x1 : Int32} {q2 : Nat} {x3 : Int32} {x4 : Int32} {x5 : Int32} {x6 : Int32} {s0 : Int32} {r : (Int32 × mS)} (H : RF h m S) (tq2 : mQ q2) (hf : gj164_69 x1 q2 x3 x4 x5 x6 s0 S = some r) : EX (j164_69 (some m) x1 (some (m + mO q2)) x3 x4 x5 x6 s0 h) (fun z => (r.1, z)) (QS m h r.2) := by
  have F := FM.rfl' (m := m) (h := h)
  unfold gj164_69 at hf
  unfold j164_69
  obtain rfl := Option.some.inj hf
  exact ⟨_, rfl, H, F⟩
theorem gj164_30_ok {m : Nat} {h : xH} {S : mS} {x1 : Int32} {q2 : Nat} {x3 : Int32} {x4 : Int32} {x5 : Int32} {s0 : Int32} {r : (Int32 × mS)} (H : RF h m S) (tq2 : mQ q2) (hf : gj164_30 x1 q2 x3 x4 x5 s0 S = some r) : EX (j164_30 (some m) x1 (some (m + mO q2)) x3 x4 x5 s0 h) (fun z => (r.1, z)) (QS m h r.2) := by
  have F := FM.rfl' (m := m) (h := h)
  unfold gj164_30 at hf
  unfold j164_30
  by_cases c_1 : x5 = x4
  · replace hf := x_pos c_1 hf
    refine EX.pos c_1 ?_
    obtain ⟨v_2, ev_2, hf⟩ := x_bind hf
    refine EX.bd (H.aI tq2 ev_2) ?_
    obtain ⟨r_4, er_4, hf⟩ := x_bind hf
    obtain ⟨h_3, eh_3, H, F_⟩ := g145_ok H er_4
    refine EX.bd eh_3 ?_
    dsimp only
    replace F := F.tr F_
    by_cases c_5 : r_4.1 = 0
    · replace hf := x_pos c_5 hf
      refine EX.pos c_5 ?_
      have Hc_ := H.cv
      obtain ⟨r_7, er_7, hf⟩ := x_bind hf
      obtain ⟨h_6, eh_6, H, F_⟩ := g157_ok H tq2 er_7
      refine EX.bd Hc_ ?_
      refine EX.bd eh_6 ?_
      dsimp only
      replace F := F.tr F_
      exact EX.uS F (gj164_69_ok H tq2 hf)
    · replace hf := x_neg c_5 hf
      refine EX.neg c_5 ?_
      have Hc_ := H.cv
      obtain ⟨r_9, er_9, hf⟩ := x_bind hf
      obtain ⟨h_8, eh_8, H, F_⟩ := g159_ok H tq2 er_9
      refine EX.bd Hc_ ?_
      refine EX.bd eh_8 ?_
      dsimp only
      replace F := F.tr F_
      exact EX.uS F (gj164_69_ok H tq2 hf)
  · replace hf := x_neg c_1 hf
    refine EX.neg c_1 ?_
    obtain ⟨v_10, ev_10, hf⟩ := x_bind hf
    refine EX.bd (H.aI tq2 ev_10) ?_
    obtain ⟨r_12, er_12, hf⟩ := x_bind hf
    obtain ⟨h_11, eh_11, H, F_⟩ := g145_ok H er_12
    refine EX.bd eh_11 ?_
    dsimp only
    replace F := F.tr F_
    by_cases c_13 : r_12.1 = 0
    · replace hf := x_pos c_13 hf
      refine EX.pos c_13 ?_
      exact EX.uS F (gj164_91_ok H tq2 hf)
    · replace hf := x_neg c_13 hf
      refine EX.neg c_13 ?_
      have Hc_ := H.cv
      obtain ⟨r_15, er_15, hf⟩ := x_bind hf
      obtain ⟨h_14, eh_14, H, F_⟩ := g159_ok H tq2 er_15
      refine EX.bd Hc_ ?_
      refine EX.bd eh_14 ?_
      dsimp only
      replace F := F.tr F_
      exact EX.uS F (gj164_91_ok H tq2 hf)
theorem g164_ok {h : xH} {m : Nat} {S : mS} {x1 : Int32} {q2 : Nat} {x3 : Int32} {x4 : Int32} {r : (Int32 × mS)} (H : RF h m S) (tq2 : mQ q2) (hf : g164 x1 q2 x3 x4 S = some r) : EX (fn164 (some m) x1 (some (m + mO q2)) x3 x4 h) (fun z => (r.1, z)) (QS m h r.2) := by
  have F := FM.rfl' (m := m) (h := h)
  unfold g164 at hf
  unfold fn164
  obtain ⟨r_2, er_2, hf⟩ := x_bind hf
  obtain ⟨h_1, eh_1, H, F_⟩ := g162_ok H tq2 er_2
  refine EX.bd eh_1 ?_
  dsimp only
  replace F := F.tr F_
  refine EX.bd (H.gR 3) ?_
  obtain ⟨v_3, ev_3, hf⟩ := x_bind hf
  refine EX.bd (H.aZ (by decide) ev_3) ?_
  by_cases c_4 : v_3 = 0
  · replace hf := x_pos c_4 hf
    refine EX.pos c_4 ?_
    refine EX.bd (H.gR 4) ?_
    obtain ⟨v_5, ev_5, hf⟩ := x_bind hf
    refine EX.bd (H.aI (by decide) ev_5) ?_
    exact EX.uS F (gj164_30_ok H tq2 hf)
  · replace hf := x_neg c_4 hf
    refine EX.neg c_4 ?_
    exact EX.uS F (gj164_30_ok H tq2 hf)
end
section
theorem gj165_53_ok {m : Nat} {h : xH} {S : mS} {x1 : Int32} {x2 : Int32} {s0 : Int32} {r : (Int32 × mS)} (H : RF h m S) (hf : gj165_53 x1 x2 s0 S = some r) : EX (j165_53 (some m) x1 x2 s0 h) (fun z => (r.1, z)) (QS m h r.2) := by
  have F := FM.rfl' (m := m) (h := h)
  unfold gj165_53 at hf
  unfold j165_53
  obtain rfl := Option.some.inj hf
  exact ⟨_, rfl, H, F⟩
theorem gj165_52_ok {m : Nat} {h : xH} {S : mS} {x1 : Int32} {x2 : Int32} {r : (Int32 × mS)} (H : RF h m S) (hf : gj165_52 x1 x2 S = some r) : EX (j165_52 (some m) x1 x2 h) (fun z => (r.1, z)) (QS m h r.2) := by
  have F := FM.rfl' (m := m) (h := h)
  unfold gj165_52 at hf
  unfold j165_52
  exact EX.uS F (gj165_53_ok H hf)
theorem g165_ok {h : xH} {m : Nat} {S : mS} {x1 : Int32} {r : (Int32 × mS)} (H : RF h m S) (hf : g165 x1 S = some r) : EX (fn165 (some m) x1 h) (fun z => (r.1, z)) (QS m h r.2) := by
  have F := FM.rfl' (m := m) (h := h)
  unfold g165 at hf
  unfold fn165
  refine EX.bd (H.gI 1) ?_
  obtain ⟨S_1, eS_1, hf⟩ := x_bind hf
  obtain ⟨h_2, eh_2, H, F_⟩ := H.pF 1 (xfit_int _) eS_1
  refine EX.bd eh_2 ?_
  replace F := F.tr F_
  have Hc_ := H.cv
  obtain ⟨r_4, er_4, hf⟩ := x_bind hf
  obtain ⟨h_3, eh_3, H, F_⟩ := g148_ok H er_4
  refine EX.bd Hc_ ?_
  refine EX.bd eh_3 ?_
  dsimp only
  replace F := F.tr F_
  by_cases c_5 : r_4.1 = 0
  · replace hf := x_pos c_5 hf
    refine EX.pos c_5 ?_
    obtain rfl := Option.some.inj hf
    exact ⟨_, rfl, H, F⟩
  · replace hf := x_neg c_5 hf
    refine EX.neg c_5 ?_
    by_cases c_6 : (S.1 1) ≤ 0
    · replace hf := x_pos c_6 hf
      refine EX.pos c_6 ?_
      exact EX.uS F (gj165_52_ok H hf)
    · replace hf := x_neg c_6 hf
      refine EX.neg c_6 ?_
      refine EX.bd (H.gR 0) ?_
      obtain ⟨r_8, er_8, hf⟩ := x_bind hf
      obtain ⟨h_7, eh_7, H, F_⟩ := g163_ok H (by decide) er_8
      refine EX.bd eh_7 ?_
      dsimp only
      replace F := F.tr F_
      by_cases c_9 : r_8.1 = (S.1 1)
      · replace hf := x_pos c_9 hf
        refine EX.pos c_9 ?_
        refine EX.bd (H.gR 0) ?_
        have Hc_ := H.cv
        obtain ⟨r_11, er_11, hf⟩ := x_bind hf
        obtain ⟨h_10, eh_10, H, F_⟩ := g164_ok H (by decide) er_11
        refine EX.bd Hc_ ?_
        refine EX.bd eh_10 ?_
        dsimp only
        replace F := F.tr F_
        exact EX.uS F (gj165_53_ok H hf)
      · replace hf := x_neg c_9 hf
        refine EX.neg c_9 ?_
        exact EX.uS F (gj165_52_ok H hf)
end
section
theorem gj166_17_ok {m : Nat} {h : xH} {S : mS} {x1 : Int32} {x2 : Int32} {r : mS} (H : RF h m S) (hf : gj166_17 x1 x2 S = some r) : EX (j166_17 (some m) x1 x2 h) (fun z => z) (QS m h r) := by
  have F := FM.rfl' (m := m) (h := h)
  unfold gj166_17 at hf
  unfold j166_17
  obtain rfl := Option.some.inj hf
  exact ⟨_, rfl, H, F⟩
theorem g166_ok {h : xH} {m : Nat} {S : mS} {x1 : Int32} {x2 : Int32} {r : mS} (H : RF h m S) (hf : g166 x1 x2 S = some r) : EX (fn166 (some m) x1 x2 h) (fun z => z) (QS m h r) := by
  have F := FM.rfl' (m := m) (h := h)
  unfold g166 at hf
  unfold fn166
  refine EX.bd (H.gI 31) ?_
  by_cases c_1 : (S.1 31) = 0
  · replace hf := x_pos c_1 hf
    refine EX.pos c_1 ?_
    obtain ⟨S_2, eS_2, hf⟩ := x_bind hf
    obtain ⟨h_3, eh_3, H, F_⟩ := H.pF 31 (xfit_int _) eS_2
    refine EX.bd eh_3 ?_
    replace F := F.tr F_
    obtain ⟨S_4, eS_4, hf⟩ := x_bind hf
    obtain ⟨h_5, eh_5, H, F_⟩ := H.pF 32 (xfit_int _) eS_4
    refine EX.bd eh_5 ?_
    replace F := F.tr F_
    exact EX.uS F (gj166_17_ok H hf)
  · replace hf := x_neg c_1 hf
    refine EX.neg c_1 ?_
    exact EX.uS F (gj166_17_ok H hf)
end
section
theorem g167_ok {h : xH} {m : Nat} {S : mS} {x1 : Int32} {r : (Int32 × mS)} (H : RF h m S) (hf : g167 x1 S = some r) : EX (fn167 (some m) x1 h) (fun z => (r.1, z)) (QS m h r.2) := by
  have F := FM.rfl' (m := m) (h := h)
  unfold g167 at hf
  unfold fn167
  refine EX.bd (H.gR 12) ?_
  obtain ⟨v_1, ev_1, hf⟩ := x_bind hf
  refine EX.bd (H.aI (by decide) ev_1) ?_
  obtain rfl := Option.some.inj hf
  exact ⟨_, rfl, H, F⟩
end
section
theorem gj168_74_ok {m : Nat} {h : xH} {S : mS} {x1 : Int32} {w2 : Int64} {x4 : Int32} {x5 : Int32} {x6 : Int32} {r : (Int32 × mS)} (H : RF h m S) (hf : gj168_74 x1 w2 x4 x5 x6 S = some r) : EX (j168_74 (some m) x1 w2 x4 x5 x6 h) (fun z => (r.1, z)) (QS m h r.2) := by
  have F := FM.rfl' (m := m) (h := h)
  unfold gj168_74 at hf
  unfold j168_74
  by_cases c_1 : x5 &&& 1 = x5
  · replace hf := x_pos c_1 hf
    refine EX.pos c_1 ?_
    obtain rfl := Option.some.inj hf
    exact ⟨_, rfl, H, F⟩
  · replace hf := x_neg c_1 hf
    cases hf
theorem gj168_66_ok {m : Nat} {k21 : Int32 → Int64 → Int32 → Int32 → Int32 → mS → Option (Int32 × mS)} {f21 : Option Nat → Int32 → Int64 → Int32 → Int32 → Int32 → xH → Option (Int32 × xH)} (hk21 : ∀ {h : xH} {S : mS} {x1 : Int32} {w2 : Int64} {x4 : Int32} {x5 : Int32} {x6 : Int32} {r : (Int32 × mS)}, RF h m S → k21 x1 w2 x4 x5 x6 S = some r → EX (f21 (some m) x1 w2 x4 x5 x6 h) (fun z => (r.1, z)) (QS m h r.2)) {h : xH} {S : mS} {x1 : Int32} {w2 : Int64} {x4 : Int32} {x5 : Int32} {x6 : Int32} {s0 : Int32} {r : (Int32 × mS)} (H : RF h m S) (hf : gj168_66 k21 x1 w2 x4 x5 x6 s0 S = some r) : EX (j168_66 f21 (some m) x1 w2 x4 x5 x6 s0 h) (fun z => (r.1, z)) (QS m h r.2) := by
  have F := FM.rfl' (m := m) (h := h)
  unfold gj168_66 at hf
  unfold j168_66
  exact EX.uS F (hk21 H hf)
theorem gl168_21_ok {m : Nat} : ∀ (n : Nat) {h : xH} {S : mS} {x1 : Int32} {w2 : Int64} {x4 : Int32} {x5 : Int32} {x6 : Int32} {r : (Int32 × mS)} (H : RF h m S), gl168_21 n x1 w2 x4 x5 x6 S = some r → EX (l168_21 n (some m) x1 w2 x4 x5 x6 h) (fun z => (r.1, z)) (QS m h r.2) := by
  intro n
  induction n with
  | zero => intros; rename_i hf; cases hf
  | succ n ih =>
    intro h S x1 w2 x4 x5 x6 r H hf
    have F := FM.rfl' (m := m) (h := h)
    replace hf : ((if x4 ≤ x6 then gj168_74 x1 w2 x4 x5 x6 S else (if x5 = 0 then gj168_74 x1 w2 x4 x5 x6 S else (g167 (x1 + x6) S).bind fun r_4 => (if r_4.1 = (((w2 >>> ((8 * ((x4 - 1) - x6)).toInt64 &&& 63)) &&& 255).toInt32) then gj168_66 (gl168_21 n) x1 w2 x4 x5 x6 1 r_4.2 else gj168_66 (gl168_21 n) x1 w2 x4 x5 x6 0 r_4.2)))) = some r := hf
    unfold l168_21
    by_cases c_1 : x4 ≤ x6
    · replace hf := x_pos c_1 hf
      refine EX.pos c_1 ?_
      exact EX.uS F (gj168_74_ok H hf)
    · replace hf := x_neg c_1 hf
      refine EX.neg c_1 ?_
      by_cases c_2 : x5 = 0
      · replace hf := x_pos c_2 hf
        refine EX.pos c_2 ?_
        exact EX.uS F (gj168_74_ok H hf)
      · replace hf := x_neg c_2 hf
        refine EX.neg c_2 ?_
        have Hc_ := H.cv
        obtain ⟨r_4, er_4, hf⟩ := x_bind hf
        obtain ⟨h_3, eh_3, H, F_⟩ := g167_ok H er_4
        refine EX.bd Hc_ ?_
        refine EX.bd eh_3 ?_
        dsimp only
        replace F := F.tr F_
        by_cases c_5 : r_4.1 = (((w2 >>> ((8 * ((x4 - 1) - x6)).toInt64 &&& 63)) &&& 255).toInt32)
        · replace hf := x_pos c_5 hf
          refine EX.pos c_5 ?_
          exact EX.uS F (gj168_66_ok (k21 := (gl168_21 n)) (f21 := (l168_21 n)) ih H hf)
        · replace hf := x_neg c_5 hf
          refine EX.neg c_5 ?_
          exact EX.uS F (gj168_66_ok (k21 := (gl168_21 n)) (f21 := (l168_21 n)) ih H hf)
theorem gj168_16_ok {m : Nat} {h : xH} {S : mS} {x1 : Int32} {w2 : Int64} {x4 : Int32} {s0 : Int32} {r : (Int32 × mS)} (H : RF h m S) (hf : gj168_16 x1 w2 x4 s0 S = some r) : EX (j168_16 (some m) x1 w2 x4 s0 h) (fun z => (r.1, z)) (QS m h r.2) := by
  have F := FM.rfl' (m := m) (h := h)
  unfold gj168_16 at hf
  unfold j168_16
  exact EX.uS F (gl168_21_ok xFuel H hf)
theorem g168_ok {h : xH} {m : Nat} {S : mS} {x1 : Int32} {w2 : Int64} {x4 : Int32} {r : (Int32 × mS)} (H : RF h m S) (hf : g168 x1 w2 x4 S = some r) : EX (fn168 (some m) x1 w2 x4 h) (fun z => (r.1, z)) (QS m h r.2) := by
  have F := FM.rfl' (m := m) (h := h)
  unfold g168 at hf
  unfold fn168
  refine EX.bd (H.gI 37) ?_
  by_cases c_1 : (S.1 37) < (x1 + x4)
  · replace hf := x_pos c_1 hf
    refine EX.pos c_1 ?_
    exact EX.uS F (gj168_16_ok H hf)
  · replace hf := x_neg c_1 hf
    refine EX.neg c_1 ?_
    exact EX.uS F (gj168_16_ok H hf)
end
section
theorem gj169_26_ok {m : Nat} {h : xH} {S : mS} {x1 : Int32} {x2 : Int32} {r : (Int32 × mS)} (H : RF h m S) (hf : gj169_26 x1 x2 S = some r) : EX (j169_26 (some m) x1 x2 h) (fun z => (r.1, z)) (QS m h r.2) := by
  have F := FM.rfl' (m := m) (h := h)
  unfold gj169_26 at hf
  unfold j169_26
  obtain rfl := Option.some.inj hf
  exact ⟨_, rfl, H, F⟩
theorem gl169_2_ok {m : Nat} : ∀ (n : Nat) {h : xH} {S : mS} {x1 : Int32} {x2 : Int32} {r : (Int32 × mS)} (H : RF h m S), gl169_2 n x1 x2 S = some r → EX (l169_2 n (some m) x1 x2 h) (fun z => (r.1, z)) (QS m h r.2) := by
  intro n
  induction n with
  | zero => intros; rename_i hf; cases hf
  | succ n ih =>
    intro h S x1 x2 r H hf
    have F := FM.rfl' (m := m) (h := h)
    replace hf : ((if (S.1 37) ≤ x2 then gj169_26 x1 x2 S else (g167 x2 S).bind fun r_3 => (if r_3.1 = 32 then gl169_2 n x1 (x2 + 1) r_3.2 else gj169_26 x1 x2 r_3.2))) = some r := hf
    unfold l169_2
    refine EX.bd (H.gI 37) ?_
    by_cases c_1 : (S.1 37) ≤ x2
    · replace hf := x_pos c_1 hf
      refine EX.pos c_1 ?_
      exact EX.uS F (gj169_26_ok H hf)
    · replace hf := x_neg c_1 hf
      refine EX.neg c_1 ?_
      have Hc_ := H.cv
      obtain ⟨r_3, er_3, hf⟩ := x_bind hf
      obtain ⟨h_2, eh_2, H, F_⟩ := g167_ok H er_3
      refine EX.bd Hc_ ?_
      refine EX.bd eh_2 ?_
      dsimp only
      replace F := F.tr F_
      by_cases c_4 : r_3.1 = 32
      · replace hf := x_pos c_4 hf
        refine EX.pos c_4 ?_
        exact EX.uS F (ih H hf)
      · replace hf := x_neg c_4 hf
        refine EX.neg c_4 ?_
        exact EX.uS F (gj169_26_ok H hf)
theorem g169_ok {h : xH} {m : Nat} {S : mS} {x1 : Int32} {r : (Int32 × mS)} (H : RF h m S) (hf : g169 x1 S = some r) : EX (fn169 (some m) x1 h) (fun z => (r.1, z)) (QS m h r.2) := by
  have F := FM.rfl' (m := m) (h := h)
  unfold g169 at hf
  unfold fn169
  exact EX.uS F (gl169_2_ok xFuel H hf)
end
section
theorem gj170_26_ok {m : Nat} {h : xH} {S : mS} {x1 : Int32} {x2 : Int32} {r : (Int32 × mS)} (H : RF h m S) (hf : gj170_26 x1 x2 S = some r) : EX (j170_26 (some m) x1 x2 h) (fun z => (r.1, z)) (QS m h r.2) := by
  have F := FM.rfl' (m := m) (h := h)
  unfold gj170_26 at hf
  unfold j170_26
  obtain rfl := Option.some.inj hf
  exact ⟨_, rfl, H, F⟩
theorem gl170_2_ok {m : Nat} : ∀ (n : Nat) {h : xH} {S : mS} {x1 : Int32} {x2 : Int32} {r : (Int32 × mS)} (H : RF h m S), gl170_2 n x1 x2 S = some r → EX (l170_2 n (some m) x1 x2 h) (fun z => (r.1, z)) (QS m h r.2) := by
  intro n
  induction n with
  | zero => intros; rename_i hf; cases hf
  | succ n ih =>
    intro h S x1 x2 r H hf
    have F := FM.rfl' (m := m) (h := h)
    replace hf : ((if (S.1 37) ≤ x2 then gj170_26 x1 x2 S else (g167 x2 S).bind fun r_3 => (if r_3.1 = 32 then gj170_26 x1 x2 r_3.2 else gl170_2 n x1 (x2 + 1) r_3.2))) = some r := hf
    unfold l170_2
    refine EX.bd (H.gI 37) ?_
    by_cases c_1 : (S.1 37) ≤ x2
    · replace hf := x_pos c_1 hf
      refine EX.pos c_1 ?_
      exact EX.uS F (gj170_26_ok H hf)
    · replace hf := x_neg c_1 hf
      refine EX.neg c_1 ?_
      have Hc_ := H.cv
      obtain ⟨r_3, er_3, hf⟩ := x_bind hf
      obtain ⟨h_2, eh_2, H, F_⟩ := g167_ok H er_3
      refine EX.bd Hc_ ?_
      refine EX.bd eh_2 ?_
      dsimp only
      replace F := F.tr F_
      by_cases c_4 : r_3.1 = 32
      · replace hf := x_pos c_4 hf
        refine EX.pos c_4 ?_
        exact EX.uS F (gj170_26_ok H hf)
      · replace hf := x_neg c_4 hf
        refine EX.neg c_4 ?_
        exact EX.uS F (ih H hf)
theorem g170_ok {h : xH} {m : Nat} {S : mS} {x1 : Int32} {r : (Int32 × mS)} (H : RF h m S) (hf : g170 x1 S = some r) : EX (fn170 (some m) x1 h) (fun z => (r.1, z)) (QS m h r.2) := by
  have F := FM.rfl' (m := m) (h := h)
  unfold g170 at hf
  unfold fn170
  exact EX.uS F (gl170_2_ok xFuel H hf)
end
section
theorem gj171_336_ok {m : Nat} {h : xH} {S : mS} {x1 : Int32} {x2 : Int32} {s0 : Int32} {r : (Int32 × mS)} (H : RF h m S) (hf : gj171_336 x1 x2 s0 S = some r) : EX (j171_336 (some m) x1 x2 s0 h) (fun z => (r.1, z)) (QS m h r.2) := by
  have F := FM.rfl' (m := m) (h := h)
  unfold gj171_336 at hf
  unfold j171_336
  obtain rfl := Option.some.inj hf
  exact ⟨_, rfl, H, F⟩
theorem gj171_335_ok {m : Nat} {h : xH} {S : mS} {x1 : Int32} {x2 : Int32} {r : (Int32 × mS)} (H : RF h m S) (hf : gj171_335 x1 x2 S = some r) : EX (j171_335 (some m) x1 x2 h) (fun z => (r.1, z)) (QS m h r.2) := by
  have F := FM.rfl' (m := m) (h := h)
  unfold gj171_335 at hf
  unfold j171_335
  exact EX.uS F (gj171_336_ok H hf)
theorem gj171_306_ok {m : Nat} {h : xH} {S : mS} {x1 : Int32} {x2 : Int32} {r : (Int32 × mS)} (H : RF h m S) (hf : gj171_306 x1 x2 S = some r) : EX (j171_306 (some m) x1 x2 h) (fun z => (r.1, z)) (QS m h r.2) := by
  have F := FM.rfl' (m := m) (h := h)
  unfold gj171_306 at hf
  unfold j171_306
  obtain ⟨S_1, eS_1, hf⟩ := x_bind hf
  obtain ⟨h_2, eh_2, H, F_⟩ := H.pF 39 (xfit_int _) eS_1
  refine EX.bd eh_2 ?_
  replace F := F.tr F_
  refine EX.bd (H.gI 37) ?_
  by_cases c_3 : (S_1.1 37) ≤ x2
  · replace hf := x_pos c_3 hf
    refine EX.pos c_3 ?_
    exact EX.uS F (gj171_335_ok H hf)
  · replace hf := x_neg c_3 hf
    refine EX.neg c_3 ?_
    have Hc_ := H.cv
    obtain ⟨r_5, er_5, hf⟩ := x_bind hf
    obtain ⟨h_4, eh_4, H, F_⟩ := g167_ok H er_5
    refine EX.bd Hc_ ?_
    refine EX.bd eh_4 ?_
    dsimp only
    replace F := F.tr F_
    by_cases c_6 : r_5.1 = 125
    · replace hf := x_pos c_6 hf
      refine EX.pos c_6 ?_
      exact EX.uS F (gj171_336_ok H hf)
    · replace hf := x_neg c_6 hf
      refine EX.neg c_6 ?_
      exact EX.uS F (gj171_335_ok H hf)
theorem gj171_304_ok {m : Nat} {h : xH} {S : mS} {x1 : Int32} {x2 : Int32} {r : (Int32 × mS)} (H : RF h m S) (hf : gj171_304 x1 x2 S = some r) : EX (j171_304 (some m) x1 x2 h) (fun z => (r.1, z)) (QS m h r.2) := by
  have F := FM.rfl' (m := m) (h := h)
  unfold gj171_304 at hf
  unfold j171_304
  obtain rfl := Option.some.inj hf
  exact ⟨_, rfl, H, F⟩
theorem gj171_269_ok {m : Nat} {h : xH} {S : mS} {x1 : Int32} {x2 : Int32} {r : (Int32 × mS)} (H : RF h m S) (hf : gj171_269 x1 x2 S = some r) : EX (j171_269 (some m) x1 x2 h) (fun z => (r.1, z)) (QS m h r.2) := by
  have F := FM.rfl' (m := m) (h := h)
  unfold gj171_269 at hf
  unfold j171_269
  refine EX.bd (H.gI 40) ?_
  obtain ⟨S_1, eS_1, hf⟩ := x_bind hf
  obtain ⟨h_2, eh_2, H, F_⟩ := H.pF 41 (xfit_int _) eS_1
  refine EX.bd eh_2 ?_
  replace F := F.tr F_
  refine EX.bd (H.gI 41) ?_
  obtain ⟨r_4, er_4, hf⟩ := x_bind hf
  obtain ⟨h_3, eh_3, H, F_⟩ := g141_ok H er_4
  refine EX.bd eh_3 ?_
  dsimp only
  replace F := F.tr F_
  by_cases c_5 : r_4.1 = 0
  · replace hf := x_pos c_5 hf
    refine EX.pos c_5 ?_
    exact EX.uS F (gj171_304_ok H hf)
  · replace hf := x_neg c_5 hf
    refine EX.neg c_5 ?_
    have Hc_ := H.cv
    obtain ⟨r_7, er_7, hf⟩ := x_bind hf
    obtain ⟨h_6, eh_6, H, F_⟩ := g167_ok H er_7
    refine EX.bd Hc_ ?_
    refine EX.bd eh_6 ?_
    dsimp only
    replace F := F.tr F_
    by_cases c_8 : r_7.1 = 32
    · replace hf := x_pos c_8 hf
      refine EX.pos c_8 ?_
      exact EX.uS F (gj171_304_ok H hf)
    · replace hf := x_neg c_8 hf
      refine EX.neg c_8 ?_
      exact EX.uS F (gj171_306_ok H hf)
theorem gl171_235_ok {m : Nat} : ∀ (n : Nat) {h : xH} {S : mS} {x1 : Int32} {x2 : Int32} {r : (Int32 × mS)} (H : RF h m S), gl171_235 n x1 x2 S = some r → EX (l171_235 n (some m) x1 x2 h) (fun z => (r.1, z)) (QS m h r.2) := by
  intro n
  induction n with
  | zero => intros; rename_i hf; cases hf
  | succ n ih =>
    intro h S x1 x2 r H hf
    have F := FM.rfl' (m := m) (h := h)
    replace hf : ((if (S.1 37) ≤ x2 then gj171_269 x1 x2 S else (g167 x2 S).bind fun r_3 => (if r_3.1 = 123 then gj171_269 x1 x2 r_3.2 else (g167 x2 r_3.2).bind fun r_6 => (if r_6.1 = 125 then gj171_269 x1 x2 r_6.2 else gl171_235 n x1 (x2 + 1) r_6.2)))) = some r := hf
    unfold l171_235
    refine EX.bd (H.gI 37) ?_
    by_cases c_1 : (S.1 37) ≤ x2
    · replace hf := x_pos c_1 hf
      refine EX.pos c_1 ?_
      exact EX.uS F (gj171_269_ok H hf)
    · replace hf := x_neg c_1 hf
      refine EX.neg c_1 ?_
      have Hc_ := H.cv
      obtain ⟨r_3, er_3, hf⟩ := x_bind hf
      obtain ⟨h_2, eh_2, H, F_⟩ := g167_ok H er_3
      refine EX.bd Hc_ ?_
      refine EX.bd eh_2 ?_
      dsimp only
      replace F := F.tr F_
      by_cases c_4 : r_3.1 = 123
      · replace hf := x_pos c_4 hf
        refine EX.pos c_4 ?_
        exact EX.uS F (gj171_269_ok H hf)
      · replace hf := x_neg c_4 hf
        refine EX.neg c_4 ?_
        have Hc_ := H.cv
        obtain ⟨r_6, er_6, hf⟩ := x_bind hf
        obtain ⟨h_5, eh_5, H, F_⟩ := g167_ok H er_6
        refine EX.bd Hc_ ?_
        refine EX.bd eh_5 ?_
        dsimp only
        replace F := F.tr F_
        by_cases c_7 : r_6.1 = 125
        · replace hf := x_pos c_7 hf
          refine EX.pos c_7 ?_
          exact EX.uS F (gj171_269_ok H hf)
        · replace hf := x_neg c_7 hf
          refine EX.neg c_7 ?_
          exact EX.uS F (ih H hf)
theorem gj171_193_ok {m : Nat} {h : xH} {S : mS} {x1 : Int32} {x2 : Int32} {r : (Int32 × mS)} (H : RF h m S) (hf : gj171_193 x1 x2 S = some r) : EX (j171_193 (some m) x1 x2 h) (fun z => (r.1, z)) (QS m h r.2) := by
  have F := FM.rfl' (m := m) (h := h)
  unfold gj171_193 at hf
  unfold j171_193
  obtain rfl := Option.some.inj hf
  exact ⟨_, rfl, H, F⟩
theorem gj171_117_ok {m : Nat} {h : xH} {S : mS} {x1 : Int32} {x2 : Int32} {x3 : Int32} {s0 : Int32} {r : (Int32 × mS)} (H : RF h m S) (hf : gj171_117 x1 x2 x3 s0 S = some r) : EX (j171_117 (some m) x1 x2 x3 s0 h) (fun z => (r.1, z)) (QS m h r.2) := by
  have F := FM.rfl' (m := m) (h := h)
  unfold gj171_117 at hf
  unfold j171_117
  obtain rfl := Option.some.inj hf
  exact ⟨_, rfl, H, F⟩
theorem gj171_116_ok {m : Nat} {h : xH} {S : mS} {x1 : Int32} {x2 : Int32} {x3 : Int32} {r : (Int32 × mS)} (H : RF h m S) (hf : gj171_116 x1 x2 x3 S = some r) : EX (j171_116 (some m) x1 x2 x3 h) (fun z => (r.1, z)) (QS m h r.2) := by
  have F := FM.rfl' (m := m) (h := h)
  unfold gj171_116 at hf
  unfold j171_116
  exact EX.uS F (gj171_117_ok H hf)
theorem gj171_70_ok {m : Nat} {h : xH} {S : mS} {x1 : Int32} {x2 : Int32} {x3 : Int32} {r : (Int32 × mS)} (H : RF h m S) (hf : gj171_70 x1 x2 x3 S = some r) : EX (j171_70 (some m) x1 x2 x3 h) (fun z => (r.1, z)) (QS m h r.2) := by
  have F := FM.rfl' (m := m) (h := h)
  unfold gj171_70 at hf
  unfold j171_70
  obtain ⟨S_1, eS_1, hf⟩ := x_bind hf
  obtain ⟨h_2, eh_2, H, F_⟩ := H.pF 40 (xfit_int _) eS_1
  refine EX.bd eh_2 ?_
  replace F := F.tr F_
  refine EX.bd (H.gI 40) ?_
  obtain ⟨S_3, eS_3, hf⟩ := x_bind hf
  obtain ⟨h_4, eh_4, H, F_⟩ := H.pF 41 (xfit_int _) eS_3
  refine EX.bd eh_4 ?_
  replace F := F.tr F_
  obtain ⟨S_5, eS_5, hf⟩ := x_bind hf
  obtain ⟨h_6, eh_6, H, F_⟩ := H.pF 39 (xfit_int _) eS_5
  refine EX.bd eh_6 ?_
  replace F := F.tr F_
  by_cases c_7 : x2 = 0
  · replace hf := x_pos c_7 hf
    refine EX.pos c_7 ?_
    refine EX.bd (H.gI 41) ?_
    obtain ⟨r_9, er_9, hf⟩ := x_bind hf
    obtain ⟨h_8, eh_8, H, F_⟩ := g141_ok H er_9
    refine EX.bd eh_8 ?_
    dsimp only
    replace F := F.tr F_
    by_cases c_10 : r_9.1 = 0
    · replace hf := x_pos c_10 hf
      refine EX.pos c_10 ?_
      exact EX.uS F (gj171_116_ok H hf)
    · replace hf := x_neg c_10 hf
      refine EX.neg c_10 ?_
      exact EX.uS F (gj171_117_ok H hf)
  · replace hf := x_neg c_7 hf
    refine EX.neg c_7 ?_
    exact EX.uS F (gj171_116_ok H hf)
theorem gj171_62_ok {m : Nat} {k20 : Int32 → Int32 → Int32 → mS → Option (Int32 × mS)} {f20 : Option Nat → Int32 → Int32 → Int32 → xH → Option (Int32 × xH)} (hk20 : ∀ {h : xH} {S : mS} {x1 : Int32} {x2 : Int32} {x3 : Int32} {r : (Int32 × mS)}, RF h m S → k20 x1 x2 x3 S = some r → EX (f20 (some m) x1 x2 x3 h) (fun z => (r.1, z)) (QS m h r.2)) {h : xH} {S : mS} {x1 : Int32} {x2 : Int32} {x3 : Int32} {s0 : Int32} {s1 : Int32} {r : (Int32 × mS)} (H : RF h m S) (hf : gj171_62 k20 x1 x2 x3 s0 s1 S = some r) : EX (j171_62 f20 (some m) x1 x2 x3 s0 s1 h) (fun z => (r.1, z)) (QS m h r.2) := by
  have F := FM.rfl' (m := m) (h := h)
  unfold gj171_62 at hf
  unfold j171_62
  exact EX.uS F (hk20 H hf)
theorem gl171_20_ok {m : Nat} : ∀ (n : Nat) {h : xH} {S : mS} {x1 : Int32} {x2 : Int32} {x3 : Int32} {r : (Int32 × mS)} (H : RF h m S), gl171_20 n x1 x2 x3 S = some r → EX (l171_20 n (some m) x1 x2 x3 h) (fun z => (r.1, z)) (QS m h r.2) := by
  intro n
  induction n with
  | zero => intros; rename_i hf; cases hf
  | succ n ih =>
    intro h S x1 x2 x3 r H hf
    have F := FM.rfl' (m := m) (h := h)
    replace hf : ((if (S.1 37) ≤ x3 then gj171_70 x1 x2 x3 S else (if x2 ≤ 0 then gj171_70 x1 x2 x3 S else (g167 x3 S).bind fun r_4 => (if r_4.1 = 123 then gj171_62 (gl171_20 n) x1 x2 x3 x2 1 r_4.2 else (g167 x3 r_4.2).bind fun r_7 => (if r_7.1 = 125 then gj171_62 (gl171_20 n) x1 x2 x3 x2 (-1) r_7.2 else gj171_62 (gl171_20 n) x1 x2 x3 x2 0 r_7.2))))) = some r := hf
    unfold l171_20
    refine EX.bd (H.gI 37) ?_
    by_cases c_1 : (S.1 37) ≤ x3
    · replace hf := x_pos c_1 hf
      refine EX.pos c_1 ?_
      exact EX.uS F (gj171_70_ok H hf)
    · replace hf := x_neg c_1 hf
      refine EX.neg c_1 ?_
      by_cases c_2 : x2 ≤ 0
      · replace hf := x_pos c_2 hf
        refine EX.pos c_2 ?_
        exact EX.uS F (gj171_70_ok H hf)
      · replace hf := x_neg c_2 hf
        refine EX.neg c_2 ?_
        have Hc_ := H.cv
        obtain ⟨r_4, er_4, hf⟩ := x_bind hf
        obtain ⟨h_3, eh_3, H, F_⟩ := g167_ok H er_4
        refine EX.bd Hc_ ?_
        refine EX.bd eh_3 ?_
        dsimp only
        replace F := F.tr F_
        by_cases c_5 : r_4.1 = 123
        · replace hf := x_pos c_5 hf
          refine EX.pos c_5 ?_
          exact EX.uS F (gj171_62_ok (k20 := (gl171_20 n)) (f20 := (l171_20 n)) ih H hf)
        · replace hf := x_neg c_5 hf
          refine EX.neg c_5 ?_
          have Hc_ := H.cv
          obtain ⟨r_7, er_7, hf⟩ := x_bind hf
          obtain ⟨h_6, eh_6, H, F_⟩ := g167_ok H er_7
          refine EX.bd Hc_ ?_
          refine EX.bd eh_6 ?_
          dsimp only
          replace F := F.tr F_
          by_cases c_8 : r_7.1 = 125
          · replace hf := x_pos c_8 hf
            refine EX.pos c_8 ?_
            exact EX.uS F (gj171_62_ok (k20 := (gl171_20 n)) (f20 := (l171_20 n)) ih H hf)
          · replace hf := x_neg c_8 hf
            refine EX.neg c_8 ?_
            exact EX.uS F (gj171_62_ok (k20 := (gl171_20 n)) (f20 := (l171_20 n)) ih H hf)
theorem g171_ok {h : xH} {m : Nat} {S : mS} {x1 : Int32} {r : (Int32 × mS)} (H : RF h m S) (hf : g171 x1 S = some r) : EX (fn171 (some m) x1 h) (fun z => (r.1, z)) (QS m h r.2) := by
  have F := FM.rfl' (m := m) (h := h)
  unfold g171 at hf
  unfold fn171
  have Hc_ := H.cv
  obtain ⟨r_2, er_2, hf⟩ := x_bind hf
  obtain ⟨h_1, eh_1, H, F_⟩ := g168_ok H er_2
  refine EX.bd Hc_ ?_
  refine EX.bd eh_1 ?_
  dsimp only
  replace F := F.tr F_
  by_cases c_3 : r_2.1 = 0
  · replace hf := x_pos c_3 hf
    refine EX.pos c_3 ?_
    have Hc_ := H.cv
    obtain ⟨r_5, er_5, hf⟩ := x_bind hf
    obtain ⟨h_4, eh_4, H, F_⟩ := g168_ok H er_5
    refine EX.bd Hc_ ?_
    refine EX.bd eh_4 ?_
    dsimp only
    replace F := F.tr F_
    by_cases c_6 : r_5.1 = 0
    · replace hf := x_pos c_6 hf
      refine EX.pos c_6 ?_
      obtain rfl := Option.some.inj hf
      exact ⟨_, rfl, H, F⟩
    · replace hf := x_neg c_6 hf
      refine EX.neg c_6 ?_
      obtain ⟨S_7, eS_7, hf⟩ := x_bind hf
      obtain ⟨h_8, eh_8, H, F_⟩ := H.pF 42 (xfit_int _) eS_7
      refine EX.bd eh_8 ?_
      replace F := F.tr F_
      refine EX.bd (H.gR 12) ?_
      refine EX.bd (H.gI 42) ?_
      refine EX.bd (H.gI 37) ?_
      obtain ⟨r_10, er_10, hf⟩ := x_bind hf
      obtain ⟨h_9, eh_9, H, F_⟩ := g163_ok H (by decide) er_10
      refine EX.bd eh_9 ?_
      dsimp only
      replace F := F.tr F_
      obtain ⟨S_11, eS_11, hf⟩ := x_bind hf
      obtain ⟨h_12, eh_12, H, F_⟩ := H.pF 43 (xfit_int _) eS_11
      refine EX.bd eh_12 ?_
      replace F := F.tr F_
      refine EX.bd (H.gI 42) ?_
      refine EX.bd (H.gI 43) ?_
      refine EX.bd (H.gI 43) ?_
      by_cases c_13 : (S_11.1 43) = 0
      · replace hf := x_pos c_13 hf
        refine EX.pos c_13 ?_
        exact EX.uS F (gj171_193_ok H hf)
      · replace hf := x_neg c_13 hf
        refine EX.neg c_13 ?_
        refine EX.bd (H.gI 37) ?_
        by_cases c_14 : ((S_11.1 42) + (S_11.1 43)) = (S_11.1 37)
        · replace hf := x_pos c_14 hf
          refine EX.pos c_14 ?_
          exact EX.uS F (gj171_193_ok H hf)
        · replace hf := x_neg c_14 hf
          refine EX.neg c_14 ?_
          refine EX.bd (H.gI 42) ?_
          obtain ⟨S_15, eS_15, hf⟩ := x_bind hf
          obtain ⟨h_16, eh_16, H, F_⟩ := H.pF 40 (xfit_int _) eS_15
          refine EX.bd eh_16 ?_
          replace F := F.tr F_
          refine EX.bd (H.gI 43) ?_
          obtain ⟨S_17, eS_17, hf⟩ := x_bind hf
          obtain ⟨h_18, eh_18, H, F_⟩ := H.pF 41 (xfit_int _) eS_17
          refine EX.bd eh_18 ?_
          replace F := F.tr F_
          have Hc_ := H.cv
          obtain ⟨r_20, er_20, hf⟩ := x_bind hf
          obtain ⟨h_19, eh_19, H, F_⟩ := g167_ok H er_20
          refine EX.bd Hc_ ?_
          refine EX.bd eh_19 ?_
          dsimp only
          replace F := F.tr F_
          by_cases c_21 : r_20.1 = 32
          · replace hf := x_pos c_21 hf
            refine EX.pos c_21 ?_
            have Hc_ := H.cv
            obtain ⟨r_23, er_23, hf⟩ := x_bind hf
            obtain ⟨h_22, eh_22, H, F_⟩ := g169_ok H er_23
            refine EX.bd Hc_ ?_
            refine EX.bd eh_22 ?_
            dsimp only
            replace F := F.tr F_
            obtain ⟨S_24, eS_24, hf⟩ := x_bind hf
            obtain ⟨h_25, eh_25, H, F_⟩ := H.pF 40 (xfit_int _) eS_24
            refine EX.bd eh_25 ?_
            replace F := F.tr F_
            refine EX.bd (H.gI 40) ?_
            exact EX.uS F (gl171_235_ok xFuel H hf)
          · replace hf := x_neg c_21 hf
            refine EX.neg c_21 ?_
            exact EX.uS F (gj171_306_ok H hf)
  · replace hf := x_neg c_3 hf
    refine EX.neg c_3 ?_
    exact EX.uS F (gl171_20_ok xFuel H hf)
end
section
theorem gj172_34_ok {m : Nat} {h : xH} {S : mS} {x1 : Int32} {s0 : Int32} {r : (Int32 × mS)} (H : RF h m S) (hf : gj172_34 x1 s0 S = some r) : EX (j172_34 (some m) x1 s0 h) (fun z => (r.1, z)) (QS m h r.2) := by
  have F := FM.rfl' (m := m) (h := h)
  unfold gj172_34 at hf
  unfold j172_34
  by_cases c_1 : s0 &&& 1 = s0
  · replace hf := x_pos c_1 hf
    refine EX.pos c_1 ?_
    obtain rfl := Option.some.inj hf
    exact ⟨_, rfl, H, F⟩
  · replace hf := x_neg c_1 hf
    cases hf
theorem gj172_33_ok {m : Nat} {h : xH} {S : mS} {x1 : Int32} {r : (Int32 × mS)} (H : RF h m S) (hf : gj172_33 x1 S = some r) : EX (j172_33 (some m) x1 h) (fun z => (r.1, z)) (QS m h r.2) := by
  have F := FM.rfl' (m := m) (h := h)
  unfold gj172_33 at hf
  unfold j172_33
  exact EX.uS F (gj172_34_ok H hf)
theorem gj172_29_ok {m : Nat} {h : xH} {S : mS} {x1 : Int32} {r : (Int32 × mS)} (H : RF h m S) (hf : gj172_29 x1 S = some r) : EX (j172_29 (some m) x1 h) (fun z => (r.1, z)) (QS m h r.2) := by
  have F := FM.rfl' (m := m) (h := h)
  unfold gj172_29 at hf
  unfold j172_29
  exact EX.uS F (gj172_34_ok H hf)
theorem g172_ok {h : xH} {m : Nat} {S : mS} {x1 : Int32} {r : (Int32 × mS)} (H : RF h m S) (hf : g172 x1 S = some r) : EX (fn172 (some m) x1 h) (fun z => (r.1, z)) (QS m h r.2) := by
  have F := FM.rfl' (m := m) (h := h)
  unfold g172 at hf
  unfold fn172
  have Hc_ := H.cv
  obtain ⟨r_2, er_2, hf⟩ := x_bind hf
  obtain ⟨h_1, eh_1, H, F_⟩ := g167_ok H er_2
  refine EX.bd Hc_ ?_
  refine EX.bd eh_1 ?_
  dsimp only
  replace F := F.tr F_
  by_cases c_3 : r_2.1 = 125
  · replace hf := x_pos c_3 hf
    refine EX.pos c_3 ?_
    exact EX.uS F (gj172_29_ok H hf)
  · replace hf := x_neg c_3 hf
    refine EX.neg c_3 ?_
    have Hc_ := H.cv
    obtain ⟨r_5, er_5, hf⟩ := x_bind hf
    obtain ⟨h_4, eh_4, H, F_⟩ := g167_ok H er_5
    refine EX.bd Hc_ ?_
    refine EX.bd eh_4 ?_
    dsimp only
    replace F := F.tr F_
    by_cases c_6 : r_5.1 = 123
    · replace hf := x_pos c_6 hf
      refine EX.pos c_6 ?_
      have Hc_ := H.cv
      obtain ⟨r_8, er_8, hf⟩ := x_bind hf
      obtain ⟨h_7, eh_7, H, F_⟩ := g171_ok H er_8
      refine EX.bd Hc_ ?_
      refine EX.bd eh_7 ?_
      dsimp only
      replace F := F.tr F_
      by_cases c_9 : r_8.1 = (-1)
      · replace hf := x_pos c_9 hf
        refine EX.pos c_9 ?_
        exact EX.uS F (gj172_29_ok H hf)
      · replace hf := x_neg c_9 hf
        refine EX.neg c_9 ?_
        exact EX.uS F (gj172_33_ok H hf)
    · replace hf := x_neg c_6 hf
      refine EX.neg c_6 ?_
      exact EX.uS F (gj172_33_ok H hf)
end
section
theorem g173_ok {h : xH} {m : Nat} {S : mS} {x1 : Int32} {x2 : Int32} {x3 : Int32} {r : mS} (H : RF h m S) (hf : g173 x1 x2 x3 S = some r) : EX (fn173 (some m) x1 x2 x3 h) (fun z => z) (QS m h r) := by
  have F := FM.rfl' (m := m) (h := h)
  unfold g173 at hf
  unfold fn173
  refine EX.bd (H.gR 14) ?_
  obtain ⟨v_1, ev_1, hf⟩ := x_bind hf
  refine EX.bd (H.aI (by decide) ev_1) ?_
  refine EX.bd (H.gR 14) ?_
  obtain ⟨v_2, ev_2, hf⟩ := x_bind hf
  refine EX.bd (H.aI (by decide) ev_2) ?_
  obtain ⟨S_3, eS_3, hf⟩ := x_bind hf
  obtain ⟨h_4, eh_4, H, F_⟩ := H.aS (by decide) eS_3
  refine EX.bd eh_4 ?_
  replace F := F.tr F_
  refine EX.bd (H.gR 16) ?_
  obtain ⟨S_5, eS_5, hf⟩ := x_bind hf
  obtain ⟨h_6, eh_6, H, F_⟩ := H.aS (by decide) eS_5
  refine EX.bd eh_6 ?_
  replace F := F.tr F_
  refine EX.bd (H.gR 17) ?_
  obtain ⟨S_7, eS_7, hf⟩ := x_bind hf
  obtain ⟨h_8, eh_8, H, F_⟩ := H.aS (by decide) eS_7
  refine EX.bd eh_8 ?_
  replace F := F.tr F_
  refine EX.bd (H.gR 18) ?_
  refine EX.bd (H.gR 15) ?_
  obtain ⟨v_9, ev_9, hf⟩ := x_bind hf
  refine EX.bd (H.aI (by decide) ev_9) ?_
  obtain ⟨S_10, eS_10, hf⟩ := x_bind hf
  obtain ⟨h_11, eh_11, H, F_⟩ := H.aS (by decide) eS_10
  refine EX.bd eh_11 ?_
  replace F := F.tr F_
  refine EX.bd (H.gR 19) ?_
  obtain ⟨S_12, eS_12, hf⟩ := x_bind hf
  obtain ⟨h_13, eh_13, H, F_⟩ := H.aS (by decide) eS_12
  refine EX.bd eh_13 ?_
  replace F := F.tr F_
  refine EX.bd (H.gR 20) ?_
  obtain ⟨S_14, eS_14, hf⟩ := x_bind hf
  obtain ⟨h_15, eh_15, H, F_⟩ := H.aS (by decide) eS_14
  refine EX.bd eh_15 ?_
  replace F := F.tr F_
  refine EX.bd (H.gR 21) ?_
  obtain ⟨S_16, eS_16, hf⟩ := x_bind hf
  obtain ⟨h_17, eh_17, H, F_⟩ := H.aS (by decide) eS_16
  refine EX.bd eh_17 ?_
  replace F := F.tr F_
  refine EX.bd (H.gR 22) ?_
  obtain ⟨S_18, eS_18, hf⟩ := x_bind hf
  obtain ⟨h_19, eh_19, H, F_⟩ := H.aS (by decide) eS_18
  refine EX.bd eh_19 ?_
  replace F := F.tr F_
  refine EX.bd (H.gR 23) ?_
  obtain ⟨S_20, eS_20, hf⟩ := x_bind hf
  obtain ⟨h_21, eh_21, H, F_⟩ := H.aB (by decide) eS_20
  refine EX.bd eh_21 ?_
  replace F := F.tr F_
  obtain ⟨S_22, eS_22, hf⟩ := x_bind hf
  obtain ⟨h_23, eh_23, H, F_⟩ := H.pF 38 (xfit_int _) eS_22
  refine EX.bd eh_23 ?_
  replace F := F.tr F_
  obtain rfl := Option.some.inj hf
  exact ⟨_, rfl, H, F⟩
end
section
theorem g174_ok {h : xH} {m : Nat} {S : mS}  {r : (Int32 × mS)} (H : RF h m S) (hf : g174  S = some r) : EX (fn174 (some m) h) (fun z => (r.1, z)) (QS m h r.2) := by
  have F := FM.rfl' (m := m) (h := h)
  unfold g174 at hf
  unfold fn174
  refine EX.bd (H.gR 14) ?_
  obtain ⟨v_1, ev_1, hf⟩ := x_bind hf
  refine EX.bd (H.aI (by decide) ev_1) ?_
  obtain rfl := Option.some.inj hf
  exact ⟨_, rfl, H, F⟩
end
section
theorem gj176_208_ok {m : Nat} {h : xH} {S : mS} {x1 : Int32} {x2 : Int32} {r : (Int32 × mS)} (H : RF h m S) (hf : gj176_208 x1 x2 S = some r) : EX (j176_208 (some m) x1 x2 h) (fun z => (r.1, z)) (QS m h r.2) := by
  have F := FM.rfl' (m := m) (h := h)
  unfold gj176_208 at hf
  unfold j176_208
  refine EX.bd (H.gR 26) ?_
  refine EX.bd (H.gI 40) ?_
  obtain ⟨S_1, eS_1, hf⟩ := x_bind hf
  obtain ⟨h_2, eh_2, H, F_⟩ := H.aS (by decide) eS_1
  refine EX.bd eh_2 ?_
  replace F := F.tr F_
  refine EX.bd (H.gR 27) ?_
  refine EX.bd (H.gI 41) ?_
  obtain ⟨S_3, eS_3, hf⟩ := x_bind hf
  obtain ⟨h_4, eh_4, H, F_⟩ := H.aS (by decide) eS_3
  refine EX.bd eh_4 ?_
  replace F := F.tr F_
  refine EX.bd (H.gI 38) ?_
  obtain rfl := Option.some.inj hf
  exact ⟨_, rfl, H, F⟩
theorem gj176_184_ok {m : Nat} {h : xH} {S : mS} {x1 : Int32} {x2 : Int32} {x3 : Int32} {r : (Int32 × mS)} (H : RF h m S) (hf : gj176_184 x1 x2 x3 S = some r) : EX (j176_184 (some m) x1 x2 x3 h) (fun z => (r.1, z)) (QS m h r.2) := by
  have F := FM.rfl' (m := m) (h := h)
  unfold gj176_184 at hf
  unfold j176_184
  refine EX.bd (H.gR 24) ?_
  obtain ⟨S_1, eS_1, hf⟩ := x_bind hf
  obtain ⟨h_2, eh_2, H, F_⟩ := H.aS (by decide) eS_1
  refine EX.bd eh_2 ?_
  replace F := F.tr F_
  obtain ⟨S_3, eS_3, hf⟩ := x_bind hf
  obtain ⟨h_4, eh_4, H, F_⟩ := H.pF 40 (xfit_int _) eS_3
  refine EX.bd eh_4 ?_
  replace F := F.tr F_
  obtain ⟨S_5, eS_5, hf⟩ := x_bind hf
  obtain ⟨h_6, eh_6, H, F_⟩ := H.pF 41 (xfit_int _) eS_5
  refine EX.bd eh_6 ?_
  replace F := F.tr F_
  obtain ⟨S_7, eS_7, hf⟩ := x_bind hf
  obtain ⟨h_8, eh_8, H, F_⟩ := H.pF 38 (xfit_int _) eS_7
  refine EX.bd eh_8 ?_
  replace F := F.tr F_
  exact EX.uS F (gj176_208_ok H hf)
theorem gl176_140_ok {m : Nat} : ∀ (n : Nat) {h : xH} {S : mS} {x1 : Int32} {x2 : Int32} {x3 : Int32} {r : (Int32 × mS)} (H : RF h m S), gl176_140 n x1 x2 x3 S = some r → EX (l176_140 n (some m) x1 x2 x3 h) (fun z => (r.1, z)) (QS m h r.2) := by
  intro n
  induction n with
  | zero => intros; rename_i hf; cases hf
  | succ n ih =>
    intro h S x1 x2 x3 r H hf
    have F := FM.rfl' (m := m) (h := h)
    replace hf : ((if (S.1 37) ≤ x3 then gj176_184 x1 x2 x3 S else (g167 x3 S).bind fun r_3 => (if r_3.1 = 32 then gj176_184 x1 x2 x3 r_3.2 else (g167 x3 r_3.2).bind fun r_6 => (if r_6.1 = 123 then gj176_184 x1 x2 x3 r_6.2 else (g167 x3 r_6.2).bind fun r_9 => (if r_9.1 = 125 then gj176_184 x1 x2 x3 r_9.2 else gl176_140 n x1 x2 (x3 + 1) r_9.2))))) = some r := hf
    unfold l176_140
    refine EX.bd (H.gI 37) ?_
    by_cases c_1 : (S.1 37) ≤ x3
    · replace hf := x_pos c_1 hf
      refine EX.pos c_1 ?_
      exact EX.uS F (gj176_184_ok H hf)
    · replace hf := x_neg c_1 hf
      refine EX.neg c_1 ?_
      have Hc_ := H.cv
      obtain ⟨r_3, er_3, hf⟩ := x_bind hf
      obtain ⟨h_2, eh_2, H, F_⟩ := g167_ok H er_3
      refine EX.bd Hc_ ?_
      refine EX.bd eh_2 ?_
      dsimp only
      replace F := F.tr F_
      by_cases c_4 : r_3.1 = 32
      · replace hf := x_pos c_4 hf
        refine EX.pos c_4 ?_
        exact EX.uS F (gj176_184_ok H hf)
      · replace hf := x_neg c_4 hf
        refine EX.neg c_4 ?_
        have Hc_ := H.cv
        obtain ⟨r_6, er_6, hf⟩ := x_bind hf
        obtain ⟨h_5, eh_5, H, F_⟩ := g167_ok H er_6
        refine EX.bd Hc_ ?_
        refine EX.bd eh_5 ?_
        dsimp only
        replace F := F.tr F_
        by_cases c_7 : r_6.1 = 123
        · replace hf := x_pos c_7 hf
          refine EX.pos c_7 ?_
          exact EX.uS F (gj176_184_ok H hf)
        · replace hf := x_neg c_7 hf
          refine EX.neg c_7 ?_
          have Hc_ := H.cv
          obtain ⟨r_9, er_9, hf⟩ := x_bind hf
          obtain ⟨h_8, eh_8, H, F_⟩ := g167_ok H er_9
          refine EX.bd Hc_ ?_
          refine EX.bd eh_8 ?_
          dsimp only
          replace F := F.tr F_
          by_cases c_10 : r_9.1 = 125
          · replace hf := x_pos c_10 hf
            refine EX.pos c_10 ?_
            exact EX.uS F (gj176_184_ok H hf)
          · replace hf := x_neg c_10 hf
            refine EX.neg c_10 ?_
            exact EX.uS F (ih H hf)
theorem gj176_61_ok {m : Nat} {h : xH} {S : mS} {x1 : Int32} {x2 : Int32} {s0 : Nat} {s1 : Int32} {s2 : Int32} {r : (Int32 × mS)} (H : RF h m S) (ts0 : mZ s0) (hf : gj176_61 x1 x2 s0 s1 s2 S = some r) : EX (j176_61 (some m) x1 x2 (some (m + mO s0)) s1 s2 h) (fun z => (r.1, z)) (QS m h r.2) := by
  have F := FM.rfl' (m := m) (h := h)
  unfold gj176_61 at hf
  unfold j176_61
  obtain ⟨S_1, eS_1, hf⟩ := x_bind hf
  obtain ⟨h_2, eh_2, H, F_⟩ := H.aB ts0 eS_1
  refine EX.bd eh_2 ?_
  replace F := F.tr F_
  refine EX.bd (H.gR 29) ?_
  obtain ⟨S_3, eS_3, hf⟩ := x_bind hf
  obtain ⟨h_4, eh_4, H, F_⟩ := H.aS (by decide) eS_3
  refine EX.bd eh_4 ?_
  replace F := F.tr F_
  refine EX.bd (H.gR 30) ?_
  obtain ⟨S_5, eS_5, hf⟩ := x_bind hf
  obtain ⟨h_6, eh_6, H, F_⟩ := H.aS (by decide) eS_5
  refine EX.bd eh_6 ?_
  replace F := F.tr F_
  have Hc_ := H.cv
  obtain ⟨r_8, er_8, hf⟩ := x_bind hf
  obtain ⟨h_7, eh_7, H, F_⟩ := g167_ok H er_8
  refine EX.bd Hc_ ?_
  refine EX.bd eh_7 ?_
  dsimp only
  replace F := F.tr F_
  by_cases c_9 : r_8.1 = 123
  · replace hf := x_pos c_9 hf
    refine EX.pos c_9 ?_
    refine EX.bd (H.gR 24) ?_
    have Hc_ := H.cv
    obtain ⟨r_11, er_11, hf⟩ := x_bind hf
    obtain ⟨h_10, eh_10, H, F_⟩ := g171_ok H er_11
    refine EX.bd Hc_ ?_
    refine EX.bd eh_10 ?_
    dsimp only
    replace F := F.tr F_
    obtain ⟨S_12, eS_12, hf⟩ := x_bind hf
    obtain ⟨h_13, eh_13, H, F_⟩ := H.aS (by decide) eS_12
    refine EX.bd eh_13 ?_
    replace F := F.tr F_
    refine EX.bd (H.gI 39) ?_
    obtain ⟨S_14, eS_14, hf⟩ := x_bind hf
    obtain ⟨h_15, eh_15, H, F_⟩ := H.pF 38 (xfit_int _) eS_14
    refine EX.bd eh_15 ?_
    replace F := F.tr F_
    refine EX.bd (H.gR 24) ?_
    obtain ⟨v_16, ev_16, hf⟩ := x_bind hf
    refine EX.bd (H.aI (by decide) ev_16) ?_
    by_cases c_17 : v_16 = 2
    · replace hf := x_pos c_17 hf
      refine EX.pos c_17 ?_
      refine EX.bd (H.gR 29) ?_
      refine EX.bd (H.gI 42) ?_
      obtain ⟨S_18, eS_18, hf⟩ := x_bind hf
      obtain ⟨h_19, eh_19, H, F_⟩ := H.aS (by decide) eS_18
      refine EX.bd eh_19 ?_
      replace F := F.tr F_
      refine EX.bd (H.gR 30) ?_
      refine EX.bd (H.gI 43) ?_
      obtain ⟨S_20, eS_20, hf⟩ := x_bind hf
      obtain ⟨h_21, eh_21, H, F_⟩ := H.aS (by decide) eS_20
      refine EX.bd eh_21 ?_
      replace F := F.tr F_
      exact EX.uS F (gj176_208_ok H hf)
    · replace hf := x_neg c_17 hf
      refine EX.neg c_17 ?_
      exact EX.uS F (gj176_208_ok H hf)
  · replace hf := x_neg c_9 hf
    refine EX.neg c_9 ?_
    exact EX.uS F (gl176_140_ok xFuel H hf)
theorem g176_ok {h : xH} {m : Nat} {S : mS} {x1 : Int32} {r : (Int32 × mS)} (H : RF h m S) (hf : g176 x1 S = some r) : EX (fn176 (some m) x1 h) (fun z => (r.1, z)) (QS m h r.2) := by
  have F := FM.rfl' (m := m) (h := h)
  unfold g176 at hf
  unfold fn176
  refine EX.bd (H.gR 15) ?_
  obtain ⟨v_1, ev_1, hf⟩ := x_bind hf
  refine EX.bd (H.aI (by decide) ev_1) ?_
  refine EX.bd (H.gR 15) ?_
  obtain ⟨v_2, ev_2, hf⟩ := x_bind hf
  refine EX.bd (H.aI (by decide) ev_2) ?_
  obtain ⟨S_3, eS_3, hf⟩ := x_bind hf
  obtain ⟨h_4, eh_4, H, F_⟩ := H.aS (by decide) eS_3
  refine EX.bd eh_4 ?_
  replace F := F.tr F_
  refine EX.bd (H.gR 19) ?_
  have Hc_ := H.cv
  obtain ⟨r_6, er_6, hf⟩ := x_bind hf
  obtain ⟨h_5, eh_5, H, F_⟩ := g174_ok H er_6
  refine EX.bd Hc_ ?_
  refine EX.bd eh_5 ?_
  dsimp only
  replace F := F.tr F_
  obtain ⟨v_7, ev_7, hf⟩ := x_bind hf
  refine EX.bd (H.aI (by decide) ev_7) ?_
  obtain ⟨S_8, eS_8, hf⟩ := x_bind hf
  obtain ⟨h_9, eh_9, H, F_⟩ := H.aS (by decide) eS_8
  refine EX.bd eh_9 ?_
  replace F := F.tr F_
  refine EX.bd (H.gR 25) ?_
  obtain ⟨S_10, eS_10, hf⟩ := x_bind hf
  obtain ⟨h_11, eh_11, H, F_⟩ := H.aS (by decide) eS_10
  refine EX.bd eh_11 ?_
  replace F := F.tr F_
  refine EX.bd (H.gR 28) ?_
  refine EX.bd (H.gI 38) ?_
  by_cases c_12 : (S_10.1 38) = x1
  · replace hf := x_pos c_12 hf
    refine EX.pos c_12 ?_
    exact EX.uS F (gj176_61_ok H (by decide) hf)
  · replace hf := x_neg c_12 hf
    refine EX.neg c_12 ?_
    exact EX.uS F (gj176_61_ok H (by decide) hf)
end
