section PC23
variable {C C' C0 C1 C2 : xC} {σ : St} {g : Gh} {es : List En} {pl : List (Nat × Nat)}
/-- the tags are planned -/
theorem g21_s (R : CR C0 σ g) (w : wSt σ) {e : Nat} (he : e < σ.2.1.length) {m : Cm} (hm : eCm (gE σ.2.1 e) = some m) (E : pnE C0 C) (P : plC C g pl) (hl : pl.length + ([2, 3, 4, 5, 6].flatMap fun s => tgI σ.2.1 e s 0 m.2.1.length).length ≤ 960) : ∃ C', g21 8 (some (g.1 e)) C = some C' ∧ plC C' g (pl ++ [2, 3, 4, 5, 6].flatMap fun s => tgI σ.2.1 e s 0 m.2.1.length) ∧ pnE C0 C' := by
  have ax := R.2.2.2.2.2.2.1
  have gc : gC σ.2.1 e = m := by unfold gC; rw [hm]; rfl
  have wc := (w.2.1.2 e he).2.2.2.2.2.2.2.2 m hm
  obtain ⟨wt, w24, w120, wB1, _⟩ := wc
  have st : ∀ D : xC, pnE C0 D → cR D (g.1 e) 7 = some (g.2.2.1 e) ∧ cRd D (g.2.2.1 e) m.2 ∧ cSh D (g.2.2.1 e) := fun D ED => by
    have HD := (CR_static R w ED.1 (by decide) (by decide)).1
    obtain ⟨x1, x2, x3⟩ := (HD.2.2 e he).2.2.2.2.2.2 m hm
    rcases (HD.2.2 e he).2.2.2.2.2.1 with xs | xs
    · rw [xs.2] at hm
      cases hm
    · exact ⟨x1, x3.2, xs.2⟩
  have inn : ∀ (K : Nat → Option Nat → Option Nat → Int32 → xC → Option xC) (s : Nat), s ≤ 6 → ∀ q M i (D : xC) (pl : List (Nat × Nat)), i + q = m.2.1.length → q < M → pnE C0 D → plC D g pl → pl.length + (tgI σ.2.1 e s i q).length ≤ 960 → ∃ C', gl21_28 K M 8 (some (g.1 e)) (some (g.2.2.1 e)) (nI s) (nI i) D = K 8 (some (g.1 e)) (some (g.2.2.1 e)) (nI (s + 1)) C' ∧ plC C' g (pl ++ tgI σ.2.1 e s i q) ∧ pnE C0 C' := by
    intro K s hs q
    induction q with
    | zero =>
      intro M i D pl hi hM ED PD hl
      obtain ⟨M, rfl⟩ : ∃ k, M = k + 1 := ⟨M - 1, by omega⟩
      rw [gl21_28]
      dsimp only
      simp only [bS]
      rw [(st D ED).2.1.1.1, if_pos (nI_le (by omega) (by omega)), nI_1]
      exact ⟨D, Eq.refl _, by simpa [tgI] using PD, ED⟩
    | succ q iq =>
      intro M i D pl hi hM ED PD hl
      obtain ⟨M, rfl⟩ : ∃ k, M = k + 1 := ⟨M - 1, by omega⟩
      obtain ⟨s1, s2, s3⟩ := st D ED
      have hil : i < m.2.1.length := by omega
      have wb := wB1 _ (gD_mem (l := m.2.1) (i := i) (d := bkD) hil)
      have bk := s2.1.2 i hil
      have tg : tgI σ.2.1 e s i (q + 1) = (if bSo (m.2.1.getD i bkD) = s then [(e, i)] else []) ++ tgI σ.2.1 e s (i + 1) q := by
        unfold tgI
        rw [List.range'_succ, List.flatMap_cons, gc]
      rw [tg] at hl ⊢
      rw [gl21_28]
      dsimp only
      simp only [bS]
      rw [s2.1.1, if_neg (nI_ge (by omega) (by omega)), g5_s s2 s3 (by omega)]
      simp only [bS]
      rw [if_neg (show ¬ nI i < 0 from nI_pos (by omega)), nI_clamp (by omega), if_pos hil, if_neg (show ¬ some (g.2.2.1 e + 4 + i) = none by simp)]
      simp only [bS]
      rw [bk.2.1]
      unfold gj21_65
      rw [nI_1 i]
      by_cases h : bSo (m.2.1.getD i bkD) = s
      · rw [if_pos (by rw [h]), if_pos h]
        rw [if_pos h, List.length_append, List.length_singleton] at hl
        obtain ⟨V, v1, v2, v3⟩ := g22_s (g := g) (by rw [ED.2.1]; exact ax.2.1) (by rw [ED.2.2.1]; exact ax.2.2.1) PD (by omega) e i
        rw [v1]
        simp only [bS]
        obtain ⟨W, w1, w2, w3⟩ := iq M (i + 1) V _ (by omega) (by omega) (ED.tr v3) v2 (by rw [List.length_append, List.length_singleton]; omega)
        rw [List.append_assoc] at w2
        exact ⟨W, w1, w2, w3⟩
      · rw [if_neg (nI_ne h (by have := wb.1; omega) (by omega)), if_neg h, List.nil_append]
        rw [if_neg h, List.nil_append] at hl
        exact iq M (i + 1) D pl (by omega) (by omega) ED PD hl
  have out : ∀ j N s (D : xC) (pl : List (Nat × Nat)), s + j = 7 → j < N → pnE C0 D → plC D g pl → pl.length + ((List.range' s j).flatMap fun s => tgI σ.2.1 e s 0 m.2.1.length).length ≤ 960 → ∃ C', gl21_19 N 8 (some (g.1 e)) (some (g.2.2.1 e)) (nI s) D = some C' ∧ plC C' g (pl ++ (List.range' s j).flatMap fun s => tgI σ.2.1 e s 0 m.2.1.length) ∧ pnE C0 C' := by
    intro j
    induction j with
    | zero =>
      intro N s D pl hs hN ED PD hl
      obtain ⟨N, rfl⟩ : ∃ k, N = k + 1 := ⟨N - 1, by omega⟩
      rw [gl21_19]
      dsimp only
      rw [if_pos (show (6 : Int32) < nI s from nI_lt (a := 6) (by omega) (by omega))]
      exact ⟨D, rfl, by simpa using PD, ED⟩
    | succ j ij =>
      intro N s D pl hs hN ED PD hl
      obtain ⟨N, rfl⟩ : ∃ k, N = k + 1 := ⟨N - 1, by omega⟩
      rw [List.range'_succ, List.flatMap_cons, List.length_append] at hl
      rw [List.range'_succ, List.flatMap_cons, gl21_19]
      dsimp only
      rw [if_neg (show ¬ (6 : Int32) < nI s from nI_nlt (a := 6) (by omega) (by decide))]
      obtain ⟨V, v1, v2, v3⟩ := inn (gl21_19 N) s (by omega) m.2.1.length xFuel 0 D pl (by omega) (pFuel _ (by omega)) ED PD (by omega)
      rw [show gl21_28 (gl21_19 N) xFuel 8 (some (g.1 e)) (some (g.2.2.1 e)) (nI s) 0 D = gl21_28 (gl21_19 N) xFuel 8 (some (g.1 e)) (some (g.2.2.1 e)) (nI s) (nI 0) D from Eq.refl _, v1]
      obtain ⟨W, w1, w2, w3⟩ := ij N (s + 1) V _ (by omega) (by omega) v3 v2 (by rw [List.length_append]; omega)
      rw [List.append_assoc] at w2
      exact ⟨W, w1, w2, w3⟩
  unfold g21
  rw [if_neg (show ¬ some (g.1 e) = none by simp)]
  simp only [bS]
  rw [(st C E).1, if_neg (show ¬ some (g.2.2.1 e) = none by simp)]
  exact out 5 xFuel 2 C pl (by decide) (by decide) E P hl
/-- the links of a planned block are resolved -/
def lkOK (C : xC) (g : Gh) (es : List En) (q : Nat × Nat) : Prop := cR C (g.2.2.1 q.1 + 4 + q.2) 9 = (if bSo ((gC es q.1).2.1.getD q.2 bkD) = 4 ∨ bSo ((gC es q.1).2.1.getD q.2 bkD) = 5 then (lead es q.1 (cut (gC es q.1).1 (bNf ((gC es q.1).2.1.getD q.2 bkD)) (bNt ((gC es q.1).2.1.getD q.2 bkD)))).map g.1 else none) ∧ ∀ i, i < bMa ((gC es q.1).2.1.getD q.2 bkD) → pSo ((gC es q.1).2.2.getD (bFi ((gC es q.1).2.1.getD q.2 bkD) + i) pcD) = 2 → cR C (g.2.2.1 q.1 + 30 + (bFi ((gC es q.1).2.1.getD q.2 bkD) + i)) 7 = (lead es q.1 (cut (gC es q.1).1 (pNf ((gC es q.1).2.2.getD (bFi ((gC es q.1).2.1.getD q.2 bkD) + i) pcD)) (pNt ((gC es q.1).2.2.getD (bFi ((gC es q.1).2.1.getD q.2 bkD) + i) pcD)))).map g.1
end PC23
