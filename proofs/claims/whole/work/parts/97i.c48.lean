section PC48
variable {C C' C0 : xC} {σ : St} {g : Gh} {es : List En} {l : List (Nat × Nat)}
/-- parameters that are not there -/
theorem g46_s (R : CR C0 σ g) (w : wSt σ) {e : Nat} (he : e < σ.2.1.length) {m : Cm} (hm : eCm (gE σ.2.1 e) = some m) (E : ntE C0 g σ.2.1.length C) (Nn : cNt C l) (hl : l.length + ((m.2.1.filter (nsP σ.2.1 e 4)).map fun b => (4, bPl b)).length ≤ 216) : ∃ C', g46 15 (some (g.1 e)) (some (g.2.2.1 e)) C = some C' ∧ cNt C' (l ++ (m.2.1.filter (nsP σ.2.1 e 4)).map fun b => (4, bPl b)) ∧ ntE C0 g σ.2.1.length C' := by
  have gc : gC σ.2.1 e = m := by unfold gC; rw [hm]; rfl
  have wc := (w.2.1.2 e he).2.2.2.2.2.2.2.2 m hm
  obtain ⟨wt, w24, w120, wB1, wP1, _⟩ := wc
  have key : ∀ q n i (D : xC) (l : List (Nat × Nat)), i + q = m.2.1.length → q < n → ntE C0 g σ.2.1.length D → cNt D l → l.length + (((m.2.1.drop i).filter (nsP σ.2.1 e 4)).map fun b => (4, bPl b)).length ≤ 216 → ∃ C', gl46_2 n 15 (some (g.1 e)) (some (g.2.2.1 e)) (nI i) D = some C' ∧ cNt C' (l ++ ((m.2.1.drop i).filter (nsP σ.2.1 e 4)).map fun b => (4, bPl b)) ∧ ntE C0 g σ.2.1.length C' := by
    intro q
    induction q with
    | zero =>
      intro n i D l hi hn ED hN hl
      obtain ⟨n, rfl⟩ : ∃ x, n = x + 1 := ⟨n - 1, by omega⟩
      obtain ⟨o5, tD, rD, sD, hc⟩ := ED.c R w he hm
      rw [gl46_2]
      dsimp only
      simp only [bS]
      rw [rD.1.1, if_pos (nI_le (by omega) (by omega)), List.drop_eq_nil_of_le (by omega)]
      exact ⟨D, rfl, by simpa using hN, ED⟩
    | succ q ih =>
      intro n i D l hi hn ED hN hl
      obtain ⟨n, rfl⟩ : ∃ x, n = x + 1 := ⟨n - 1, by omega⟩
      obtain ⟨o5, tD, rD, sD, hc⟩ := ED.c R w he hm
      have hil : i < m.2.1.length := by omega
      have wb := wB1 _ (gD_mem (l := m.2.1) (i := i) (d := bkD) hil)
      have hd : m.2.1.drop i = m.2.1.getD i bkD :: m.2.1.drop (i + 1) := by
        rw [List.drop_eq_getElem_cons hil, List.getD_eq_getElem?_getD, List.getElem?_eq_getElem hil]
        rfl
      have bk := rD.1.2 i hil
      rw [hd] at hl ⊢
      generalize m.2.1.getD i bkD = b at wb hl bk ⊢
      rw [gl46_2]
      dsimp only
      simp only [bS]
      rw [rD.1.1, if_neg (nI_ge (by omega) (by omega)), g5_s rD sD (by omega)]
      simp only [bS]
      rw [if_neg (show ¬ nI i < 0 from nI_pos (by omega)), nI_clamp (by omega), if_pos hil, if_neg (show ¬ some (g.2.2.1 e + 4 + i) = none by simp)]
      simp only [bS]
      rw [bk.2.1]
      unfold gj46_62
      rw [nI_1]
      by_cases h2 : bSo b = 2
      · have n7 := bk.2.2.2.2.2.2.1 (by rw [h2]; decide) (by omega)
        rw [if_pos (by rw [h2]; rfl), n7.1, n7.2, sD.1, g16_s (ED.e R w) w.2.1 tD (by decide) he wb.2.2.2.2.1 wb.2.2.2.2.2.1]
        simp only [bS, bZ_0]
        have en : nsP σ.2.1 e 4 b = !((ePs (gE σ.2.1 e)).any fun a => decide (a = cut m.1 (bNf b) (bNt b))) := by
          unfold nsP
          rw [if_neg (by decide), if_pos rfl, h2, gc]
          rfl
        cases ha : ((ePs (gE σ.2.1 e)).any fun a => decide (a = cut m.1 (bNf b) (bNt b))) with
        | false =>
          rw [ha] at en
          rw [List.filter_cons_of_pos en, List.map_cons] at hl ⊢
          rw [List.length_cons] at hl
          rw [if_pos (Eq.refl false), bk.2.2.1]
          obtain ⟨V, v1, v2, v3, v4⟩ := g41_s hN (by omega) 4 (bPl b)
          rw [show (4 : Int32) = nI 4 from rfl, v1]
          simp only [bS]
          obtain ⟨W, w1, w2, w3⟩ := ih n (i + 1) V _ (by omega) (by omega) (ED.o v3 v4) v2 (by rw [List.length_append, List.length_singleton]; omega)
          refine ⟨W, w1, ?_, w3⟩
          rw [List.append_assoc, List.singleton_append] at w2
          exact w2
        | true =>
          rw [ha] at en
          rw [List.filter_cons_of_neg (by rw [en]; decide)] at hl ⊢
          rw [if_neg (show ¬ true = false by decide)]
          exact ih n (i + 1) D l (by omega) (by omega) ED hN hl
      · have en : ¬ nsP σ.2.1 e 4 b = true := by
          unfold nsP
          rw [if_neg (by decide), if_pos rfl]
          simp [h2]
        rw [List.filter_cons_of_neg en] at hl ⊢
        rw [if_neg (show ¬ _ = (2 : Int32) from nI_ne h2 (by have := wb.1; omega) (by decide))]
        exact ih n (i + 1) D l (by omega) (by omega) ED hN hl
  have := key m.2.1.length xFuel 0 C l (by omega) (pFuel _ (by omega)) E Nn hl
  exact this
/-- what is not told -/
theorem g48_s (R : CR C0 σ g) (w : wSt σ) {e : Nat} (he : e < σ.2.1.length) (E : ntE C0 g σ.2.1.length C) (Nn : cNt C l) (hl : l.length + ((((List.range (ePs (gE σ.2.1 e)).length).filter (ntU σ.2.1 e)).map fun k => (6, k)) ++ ntR σ.2.1 e).length ≤ 216) : ∃ C', g48 15 (some 3) (some (g.1 e)) C = some C' ∧ cNt C' (l ++ ((((List.range (ePs (gE σ.2.1 e)).length).filter (ntU σ.2.1 e)).map fun k => (6, k)) ++ ntR σ.2.1 e)) ∧ ntE C0 g σ.2.1.length C' := by
  have w4 := (w.2.1.2 e he).2.2.2.2.2.2.1
  have key : ∀ q n j (D : xC) (l : List (Nat × Nat)), j + q = (ePs (gE σ.2.1 e)).length → q < n → ntE C0 g σ.2.1.length D → cNt D l → l.length + (((((List.range (ePs (gE σ.2.1 e)).length).drop j).filter (ntU σ.2.1 e)).map fun k => (6, k)) ++ ntR σ.2.1 e).length ≤ 216 → ∃ C', gl48_2 n 15 (some 3) (some (g.1 e)) (nI j) D = some C' ∧ cNt C' (l ++ (((((List.range (ePs (gE σ.2.1 e)).length).drop j).filter (ntU σ.2.1 e)).map fun k => (6, k)) ++ ntR σ.2.1 e)) ∧ ntE C0 g σ.2.1.length C' := by
    intro q
    induction q with
    | zero =>
      intro n j D l hj hn ED hN hl
      obtain ⟨n, rfl⟩ : ∃ x, n = x + 1 := ⟨n - 1, by omega⟩
      have HD := ED.e R w
      have hE := (HD.2.2 e he).2
      rw [List.drop_eq_nil_of_le (by simp; omega), List.filter_nil, List.map_nil, List.nil_append] at hl ⊢
      rw [gl48_2]
      dsimp only
      simp only [bS]
      rw [hE.2.2.1.2.2.1, if_pos (nI_le (by omega) (by omega)), hE.2.1.2.2]
      unfold gj48_68 ntR
      unfold ntR at hl
      simp only [bZ_0]
      cases hg : eGv (gE σ.2.1 e) with
      | false =>
        rw [if_pos (Eq.refl false), if_neg (show ¬ (false = true ∧ _) from fun h9 => by cases h9.1)]
        exact ⟨D, rfl, by simpa using hN, ED⟩
      | true =>
        rw [hg] at hl
        rw [if_neg (show ¬ true = false by decide)]
        unfold g49
        have := g49_s (g := g) (es := σ.2.1) (nm := none) (o2 := none) HD w.2.1 rfl (some (g.1 e)) 40 xFuel (some e) (Nat.le_refl _) (by decide) (fun x hx => by cases hx; exact he)
        rw [show gl49_5 xFuel (some 3) (some (g.1 e)) none (some (g.1 e)) 0 D = gl49_5 xFuel (some 3) (some (g.1 e)) none (Option.map g.1 (some e)) (nI (40 - 40)) D from rfl, this]
        simp only [bS, bZ_0]
        cases ht : told σ.2.1 none 40 (some e) with
        | false =>
          rw [ht, if_pos (show true = true ∧ false = false from ⟨rfl, rfl⟩), List.length_singleton] at hl
          rw [if_pos (Eq.refl false), if_pos (show True ∧ false = false from ⟨trivial, rfl⟩)]
          obtain ⟨V, v1, v2, v3, v4⟩ := g41_s hN (by omega) 7 0
          rw [show g41 15 7 0 D = g41 15 (nI 7) (nI 0) D from rfl, v1]
          exact ⟨V, rfl, v2, ED.o v3 v4⟩
        | true =>
          rw [if_neg (show ¬ true = false by decide), if_neg (show ¬ (True ∧ true = false) from fun h9 => by cases h9.2)]
          exact ⟨D, rfl, by simpa using hN, ED⟩
    | succ q ih =>
      intro n j D l hj hn ED hN hl
      obtain ⟨n, rfl⟩ : ∃ x, n = x + 1 := ⟨n - 1, by omega⟩
      have HD := ED.e R w
      have hE := (HD.2.2 e he).2
      have hjl : j < (ePs (gE σ.2.1 e)).length := by omega
      have hd : (List.range (ePs (gE σ.2.1 e)).length).drop j = j :: (List.range (ePs (gE σ.2.1 e)).length).drop (j + 1) := by
        rw [List.drop_eq_getElem_cons (by simpa using hjl)]
        simp
      rw [hd] at hl ⊢
      rw [gl48_2]
      dsimp only
      simp only [bS]
      rw [hE.2.2.1.2.2.1, if_neg (nI_ge (by omega) (by omega)), g15_s HD w.2.1 he hjl]
      simp only [bS]
      rw [if_neg (show ¬ some (g.2.1 e j) = none by simp)]
      unfold g49
      have := g49_s (g := g) (es := σ.2.1) (nm := some ((ePs (gE σ.2.1 e)).getD j [])) (o2 := some (g.2.1 e j)) HD w.2.1 ⟨_, _, _, rfl, (hE.2.2.1.2.2.2 j hjl).2⟩ (some (g.1 e)) 40 xFuel (some e) (Nat.le_refl _) (by decide) (fun x hx => by cases hx; exact he)
      rw [show gl49_5 xFuel (some 3) (some (g.1 e)) (some (g.2.1 e j)) (some (g.1 e)) 0 D = gl49_5 xFuel (some 3) (some (g.1 e)) (some (g.2.1 e j)) (Option.map g.1 (some e)) (nI (40 - 40)) D from rfl, this]
      simp only [bS, bZ_0]
      unfold gj48_39
      rw [nI_1]
      cases ht : told σ.2.1 (some ((ePs (gE σ.2.1 e)).getD j [])) 40 (some e) with
      | false =>
        have en : ntU σ.2.1 e j = true := by unfold ntU; rw [ht]; rfl
        rw [List.filter_cons_of_pos en, List.map_cons, List.cons_append] at hl ⊢
        rw [List.length_cons] at hl
        rw [if_pos (Eq.refl false)]
        obtain ⟨V, v1, v2, v3, v4⟩ := g41_s hN (by omega) 6 j
        rw [show (6 : Int32) = nI 6 from rfl, v1]
        simp only [bS]
        obtain ⟨W, w1, w2, w3⟩ := ih n (j + 1) V _ (by omega) (by omega) (ED.o v3 v4) v2 (by rw [List.length_append, List.length_singleton]; omega)
        refine ⟨W, w1, ?_, w3⟩
        rw [List.append_assoc, List.singleton_append] at w2
        exact w2
      | true =>
        have en : ¬ ntU σ.2.1 e j = true := by unfold ntU; rw [ht]; decide
        rw [List.filter_cons_of_neg en] at hl ⊢
        rw [if_neg (show ¬ true = false by decide)]
        exact ih n (j + 1) D l (by omega) (by omega) ED hN hl
  exact key (ePs (gE σ.2.1 e)).length xFuel 0 C l (by omega) (pFuel _ (by omega)) E Nn hl
end PC48
