section
theorem gj225_46_ok {m : Nat} {h : xH} {S : mS} {x1 : Int32} {x2 : Int32} {s0 : Int32} {r : (Int32 × mS)} (H : RF h m S) (hf : gj225_46 x1 x2 s0 S = some r) : EX (j225_46 (some m) x1 x2 s0 h) (fun z => (r.1, z)) (QS m h r.2) := by
  have F := FM.rfl' (m := m) (h := h)
  unfold gj225_46 at hf
  unfold j225_46
  obtain rfl := Option.some.inj hf
  exact ⟨_, rfl, H, F⟩
theorem gj225_45_ok {m : Nat} {h : xH} {S : mS} {x1 : Int32} {x2 : Int32} {r : (Int32 × mS)} (H : RF h m S) (hf : gj225_45 x1 x2 S = some r) : EX (j225_45 (some m) x1 x2 h) (fun z => (r.1, z)) (QS m h r.2) := by
  have F := FM.rfl' (m := m) (h := h)
  unfold gj225_45 at hf
  unfold j225_45
  exact EX.uS F (gj225_46_ok H hf)
theorem g225_ok {h : xH} {m : Nat} {S : mS} {x1 : Int32} {x2 : Int32} {r : (Int32 × mS)} (H : RF h m S) (hf : g225 x1 x2 S = some r) : EX (fn225 (some m) x1 x2 h) (fun z => (r.1, z)) (QS m h r.2) := by
  have F := FM.rfl' (m := m) (h := h)
  unfold g225 at hf
  unfold fn225
  refine EX.bd (H.gI 73) ?_
  obtain ⟨r_2, er_2, hf⟩ := x_bind hf
  obtain ⟨h_1, eh_1, H, F_⟩ := g141_ok H er_2
  refine EX.bd eh_1 ?_
  dsimp only
  replace F := F.tr F_
  by_cases c_3 : r_2.1 = 0
  · replace hf := x_pos c_3 hf
    refine EX.pos c_3 ?_
    exact EX.uS F (gj225_45_ok H hf)
  · replace hf := x_neg c_3 hf
    refine EX.neg c_3 ?_
    obtain ⟨r_5, er_5, hf⟩ := x_bind hf
    obtain ⟨h_4, eh_4, H, F_⟩ := g141_ok H er_5
    refine EX.bd eh_4 ?_
    dsimp only
    replace F := F.tr F_
    by_cases c_6 : r_5.1 = 0
    · replace hf := x_pos c_6 hf
      refine EX.pos c_6 ?_
      exact EX.uS F (gj225_45_ok H hf)
    · replace hf := x_neg c_6 hf
      refine EX.neg c_6 ?_
      by_cases c_7 : x2 = 0
      · replace hf := x_pos c_7 hf
        refine EX.pos c_7 ?_
        refine EX.bd (H.gR 71) ?_
        obtain ⟨v_8, ev_8, hf⟩ := x_bind hf
        refine EX.bd (H.aI (by decide) ev_8) ?_
        exact EX.uS F (gj225_46_ok H hf)
      · replace hf := x_neg c_7 hf
        refine EX.neg c_7 ?_
        refine EX.bd (H.gR 72) ?_
        obtain ⟨v_9, ev_9, hf⟩ := x_bind hf
        refine EX.bd (H.aI (by decide) ev_9) ?_
        exact EX.uS F (gj225_46_ok H hf)
end
section
theorem gj226_101_ok {m : Nat} {h : xH} {S : mS} {x1 : Int32} {x2 : Int32} {x3 : Int32} {x4 : Int32} {s0 : Int32} {r : (Int32 × mS)} (H : RF h m S) (hf : gj226_101 x1 x2 x3 x4 s0 S = some r) : EX (j226_101 (some m) x1 x2 x3 x4 s0 h) (fun z => (r.1, z)) (QS m h r.2) := by
  have F := FM.rfl' (m := m) (h := h)
  unfold gj226_101 at hf
  unfold j226_101
  obtain rfl := Option.some.inj hf
  exact ⟨_, rfl, H, F⟩
theorem gj226_51_ok {m : Nat} {k7 : Int32 → Int32 → Int32 → Int32 → mS → Option (Int32 × mS)} {f7 : Option Nat → Int32 → Int32 → Int32 → Int32 → xH → Option (Int32 × xH)} (hk7 : ∀ {h : xH} {S : mS} {x1 : Int32} {x2 : Int32} {x3 : Int32} {x4 : Int32} {r : (Int32 × mS)}, RF h m S → k7 x1 x2 x3 x4 S = some r → EX (f7 (some m) x1 x2 x3 x4 h) (fun z => (r.1, z)) (QS m h r.2)) {h : xH} {S : mS} {x1 : Int32} {x2 : Int32} {x3 : Int32} {x4 : Int32} {s0 : Int32} {s1 : Int32} {r : (Int32 × mS)} (H : RF h m S) (hf : gj226_51 k7 x1 x2 x3 x4 s0 s1 S = some r) : EX (j226_51 f7 (some m) x1 x2 x3 x4 s0 s1 h) (fun z => (r.1, z)) (QS m h r.2) := by
  have F := FM.rfl' (m := m) (h := h)
  unfold gj226_51 at hf
  unfold j226_51
  exact EX.uS F (hk7 H hf)
theorem gj226_32_ok {m : Nat} {k7 : Int32 → Int32 → Int32 → Int32 → mS → Option (Int32 × mS)} {f7 : Option Nat → Int32 → Int32 → Int32 → Int32 → xH → Option (Int32 × xH)} (hk7 : ∀ {h : xH} {S : mS} {x1 : Int32} {x2 : Int32} {x3 : Int32} {x4 : Int32} {r : (Int32 × mS)}, RF h m S → k7 x1 x2 x3 x4 S = some r → EX (f7 (some m) x1 x2 x3 x4 h) (fun z => (r.1, z)) (QS m h r.2)) {h : xH} {S : mS} {x1 : Int32} {x2 : Int32} {x3 : Int32} {x4 : Int32} {s0 : Int32} {s1 : Int32} {r : (Int32 × mS)} (H : RF h m S) (hf : gj226_32 k7 x1 x2 x3 x4 s0 s1 S = some r) : EX (j226_32 f7 (some m) x1 x2 x3 x4 s0 s1 h) (fun z => (r.1, z)) (QS m h r.2) := by
  have F := FM.rfl' (m := m) (h := h)
  unfold gj226_32 at hf
  unfold j226_32
  refine EX.bd (H.gR 13) ?_
  obtain ⟨v_1, ev_1, hf⟩ := x_bind hf
  refine EX.bd (H.aI (by decide) ev_1) ?_
  by_cases c_2 : v_1 = (-1)
  · replace hf := x_pos c_2 hf
    refine EX.pos c_2 ?_
    exact EX.uS F (gj226_51_ok (k7 := k7) (f7 := f7) hk7 H hf)
  · replace hf := x_neg c_2 hf
    refine EX.neg c_2 ?_
    exact EX.uS F (gj226_51_ok (k7 := k7) (f7 := f7) hk7 H hf)
theorem gl226_7_ok {m : Nat} : ∀ (n : Nat) {h : xH} {S : mS} {x1 : Int32} {x2 : Int32} {x3 : Int32} {x4 : Int32} {r : (Int32 × mS)} (H : RF h m S), gl226_7 n x1 x2 x3 x4 S = some r → EX (l226_7 n (some m) x1 x2 x3 x4 h) (fun z => (r.1, z)) (QS m h r.2) := by
  intro n
  induction n with
  | zero => intros; rename_i hf; cases hf
  | succ n ih =>
    intro h S x1 x2 x3 x4 r H hf
    have F := FM.rfl' (m := m) (h := h)
    replace hf : ((if (S.1 2) ≤ x4 then (if x1 = 0 then gj226_101 x1 x2 x3 x4 (S.1 2) S else (if x1 = 1 then gj226_101 x1 x2 x3 x4 x2 S else (if x1 = 2 then gj226_101 x1 x2 x3 x4 (S.1 1) S else (if x1 = 3 then gj226_101 x1 x2 x3 x4 x3 S else gj226_101 x1 x2 x3 x4 (-1) S)))) else (sLd S 3 x4).bind fun v_6 => (if v_6 = 0 then gj226_32 (gl226_7 n) x1 x2 x3 x4 x2 0 S else gj226_32 (gl226_7 n) x1 x2 x3 x4 x2 1 S))) = some r := hf
    unfold l226_7
    refine EX.bd (H.gI 2) ?_
    by_cases c_1 : (S.1 2) ≤ x4
    · replace hf := x_pos c_1 hf
      refine EX.pos c_1 ?_
      by_cases c_2 : x1 = 0
      · replace hf := x_pos c_2 hf
        refine EX.pos c_2 ?_
        refine EX.bd (H.gI 2) ?_
        exact EX.uS F (gj226_101_ok H hf)
      · replace hf := x_neg c_2 hf
        refine EX.neg c_2 ?_
        by_cases c_3 : x1 = 1
        · replace hf := x_pos c_3 hf
          refine EX.pos c_3 ?_
          exact EX.uS F (gj226_101_ok H hf)
        · replace hf := x_neg c_3 hf
          refine EX.neg c_3 ?_
          by_cases c_4 : x1 = 2
          · replace hf := x_pos c_4 hf
            refine EX.pos c_4 ?_
            refine EX.bd (H.gI 1) ?_
            exact EX.uS F (gj226_101_ok H hf)
          · replace hf := x_neg c_4 hf
            refine EX.neg c_4 ?_
            by_cases c_5 : x1 = 3
            · replace hf := x_pos c_5 hf
              refine EX.pos c_5 ?_
              exact EX.uS F (gj226_101_ok H hf)
            · replace hf := x_neg c_5 hf
              refine EX.neg c_5 ?_
              exact EX.uS F (gj226_101_ok H hf)
    · replace hf := x_neg c_1 hf
      refine EX.neg c_1 ?_
      refine EX.bd (H.gR 3) ?_
      obtain ⟨v_6, ev_6, hf⟩ := x_bind hf
      refine EX.bd (H.aZ (by decide) ev_6) ?_
      by_cases c_7 : v_6 = 0
      · replace hf := x_pos c_7 hf
        refine EX.pos c_7 ?_
        exact EX.uS F (gj226_32_ok (k7 := (gl226_7 n)) (f7 := (l226_7 n)) ih H hf)
      · replace hf := x_neg c_7 hf
        refine EX.neg c_7 ?_
        exact EX.uS F (gj226_32_ok (k7 := (gl226_7 n)) (f7 := (l226_7 n)) ih H hf)
theorem g226_ok {h : xH} {m : Nat} {S : mS} {x1 : Int32} {r : (Int32 × mS)} (H : RF h m S) (hf : g226 x1 S = some r) : EX (fn226 (some m) x1 h) (fun z => (r.1, z)) (QS m h r.2) := by
  have F := FM.rfl' (m := m) (h := h)
  unfold g226 at hf
  unfold fn226
  exact EX.uS F (gl226_7_ok xFuel H hf)
end
