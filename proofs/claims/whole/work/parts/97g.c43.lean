section PC43
variable {C C' C0 : xC} {σ : St} {g : Gh} {es : List En} {l : List (Nat × Nat)}
/-- where notes are taken -/
def ntE (C0 : xC) (g : Gh) (n : Nat) (C : xC) : Prop := lkE (lkZ C0 g n) nQ C0 C ∧ sm C0 C
theorem CR.nq (R : CR C0 σ g) : ∀ a, g.2.2.2.2.2.2 a < 1000 → nQ a := fun a ha => by
  have rg := R.2.2.2.2.2.2.2.2
  exact ⟨rg.ne (Or.inl (by decide)) ha, rg.ne (Or.inl (by decide)) ha, rg.ne (Or.inl (by decide)) ha⟩
theorem ntE.e (E : ntE C0 g σ.2.1.length C) (R : CR C0 σ g) (w : wSt σ) : cE C g.1 g.2.1 g.2.2.1 σ.2.1 := cE_lk R w E.1 R.nq (by decide) (by decide)
theorem ntE.o {n : Nat} (E : ntE C0 g n C) (x : eqO nQ C C') (s : sm C C') : ntE C0 g n C' := ⟨E.1.tr (lkE.of x), E.2.tr s⟩
/-- the entry's comment -/
theorem ntE.c (E : ntE C0 g σ.2.1.length C) (R : CR C0 σ g) (w : wSt σ) {e : Nat} (he : e < σ.2.1.length) {m : Cm} (hm : eCm (gE σ.2.1 e) = some m) : cR C (g.2.2.1 e) 5 = some (g.1 e) ∧ TX C (g.2.2.1 e + 1) (g.2.2.1 e + 2) 600 m.1 ∧ cRd C (g.2.2.1 e) m.2 ∧ cSh C (g.2.2.1 e) ∧ ∀ i, i < 150 → nQ (g.2.2.1 e + i) := by
  have HD := E.e R w
  obtain ⟨x1, x2, x3⟩ := (HD.2.2 e he).2.2.2.2.2.2 m hm
  have hne : cR C0 (g.1 e) 7 ≠ none := by rw [((R.2.2.1.2.2 e he).2.2.2.2.2.2 m hm).1]; simp
  have w1 := w.2.1.1
  rcases (HD.2.2 e he).2.2.2.2.2.1 with xs | xs
  · rw [xs.2] at hm
    cases hm
  · exact ⟨x2, x3.1, x3.2, xs.2, fun i hi => R.nq _ (by rw [R.2.2.2.2.2.2.2.2.2.2.1 e he hne i hi]; omega)⟩
/-- dead links of all blocks -/
theorem g43_s (R : CR C0 σ g) (w : wSt σ) {e : Nat} (he : e < σ.2.1.length) {m : Cm} (hm : eCm (gE σ.2.1 e) = some m) (E : ntE C0 g σ.2.1.length C) (Nn : cNt C l) (hl : l.length + (m.2.1.flatMap (dBk σ.2.1 e)).length ≤ 216) : ∃ C', g43 15 (some 3) (some (g.2.2.1 e)) C = some C' ∧ ntE C0 g σ.2.1.length C' ∧ cNt C' (l ++ m.2.1.flatMap (dBk σ.2.1 e)) := by
  have gc : gC σ.2.1 e = m := by unfold gC; rw [hm]; rfl
  have wc := (w.2.1.2 e he).2.2.2.2.2.2.2.2 m hm
  obtain ⟨wt, w24, w120, wB1, wP1, _⟩ := wc
  have key : ∀ q n i (D : xC) (l : List (Nat × Nat)), i + q = m.2.1.length → q < n → ntE C0 g σ.2.1.length D → cNt D l → l.length + ((m.2.1.drop i).flatMap (dBk σ.2.1 e)).length ≤ 216 → ∃ C', gl43_2 n 15 (some 3) (some (g.2.2.1 e)) (nI i) D = some C' ∧ ntE C0 g σ.2.1.length C' ∧ cNt C' (l ++ (m.2.1.drop i).flatMap (dBk σ.2.1 e)) := by
    intro q
    induction q with
    | zero =>
      intro n i D l hi hn ED hN hl
      obtain ⟨n, rfl⟩ : ∃ x, n = x + 1 := ⟨n - 1, by omega⟩
      obtain ⟨o5, tD, rD, sD, hc⟩ := ED.c R w he hm
      rw [gl43_2]
      dsimp only
      simp only [bS]
      rw [rD.1.1, if_pos (nI_le (by omega) (by omega)), List.drop_eq_nil_of_le (by omega)]
      exact ⟨D, rfl, ED, by simpa using hN⟩
    | succ q ih =>
      intro n i D l hi hn ED hN hl
      obtain ⟨n, rfl⟩ : ∃ x, n = x + 1 := ⟨n - 1, by omega⟩
      obtain ⟨o5, tD, rD, sD, hc⟩ := ED.c R w he hm
      have hil : i < m.2.1.length := by omega
      have wb := wB1 _ (gD_mem (l := m.2.1) (i := i) (d := bkD) hil)
      rw [show m.2.1.drop i = m.2.1.getD i bkD :: m.2.1.drop (i + 1) by
        rw [List.drop_eq_getElem_cons hil, List.getD_eq_getElem?_getD, List.getElem?_eq_getElem hil]
        rfl, List.flatMap_cons, List.length_append] at hl
      rw [show m.2.1.drop i = m.2.1.getD i bkD :: m.2.1.drop (i + 1) by
        rw [List.drop_eq_getElem_cons hil, List.getD_eq_getElem?_getD, List.getElem?_eq_getElem hil]
        rfl, List.flatMap_cons]
      obtain ⟨b, hb⟩ : ∃ b, m.2.1.getD i bkD = b := ⟨_, rfl⟩
      rw [hb] at wb hl ⊢
      rw [gl43_2]
      dsimp only
      simp only [bS]
      rw [rD.1.1, if_neg (nI_ge (by omega) (by omega)), g5_s rD sD (by omega)]
      simp only [bS]
      rw [if_neg (show ¬ nI i < 0 from nI_pos (by omega)), nI_clamp (by omega), if_pos hil, if_neg (show ¬ some (g.2.2.1 e + 4 + i) = none by simp)]
      obtain ⟨V, v1, v2, v3, v4, v5⟩ := g94_s R w R.nq (by decide) (by decide) ED.1 he hm hil hb
      rw [v1]
      simp only [bS]
      have hne : cR C0 (g.1 e) 7 ≠ none := by rw [((R.2.2.1.2.2 e he).2.2.2.2.2.2 m hm).1]; simp
      have zz : ∀ a j, zB (g.2.2.1 e) i (bFi b) (bMa b) a j → lkZ C0 g σ.2.1.length a j := fun a j hz => by
        have b4 := wb.2.2.2.1
        refine ⟨e, he, hne, ?_⟩
        rcases hz with hz | ⟨x, i1, i2, i3⟩
        · exact Or.inl ⟨by omega, by omega, hz.2⟩
        · exact Or.inr ⟨by omega, by omega, i3⟩
      have EV : ntE C0 g σ.2.1.length V := ⟨ED.1.tr (v2.mono zz fun _ _ => trivial), ED.2.tr v3⟩
      have NV : cNt V l := by
        have EQ : eqO (fun a => a = 15 ∨ a = 16 ∨ a = 17) D V := v2.eq fun a ha => ⟨trivial, fun k hk => by
          have b4 := wb.2.2.2.1
          rcases hk with hk | ⟨x, x1, x2, x3⟩
          · have h1 := hc (4 + i) (by omega)
            have h2 : a = g.2.2.1 e + (4 + i) := by omega
            rw [← h2] at h1
            omega
          · have h1 := hc (30 + (bFi b + x)) (by omega)
            have h2 : a = g.2.2.1 e + (30 + (bFi b + x)) := by omega
            rw [← h2] at h1
            omega⟩
        exact hN.kp EQ ⟨Or.inl rfl, Or.inr (Or.inl rfl), Or.inr (Or.inr rfl)⟩
      obtain ⟨o5V, tV, rV, sV, _⟩ := EV.c R w he hm
      have ed : dBk σ.2.1 e b = (if (bSo b = 4 ∨ bSo b = 5) ∧ (lead σ.2.1 e (cut m.1 (bNf b) (bNt b))).isNone = true then [(2, bPl b)] else []) ++ (((m.2.2.drop (bFi b)).take (bMa b)).filter (dP σ.2.1 e m.1)).map fun p => (2, pPl p) := by
        unfold dBk
        rw [gc]
        have : dPc σ.2.1 e = dP σ.2.1 e m.1 := by
          funext p
          unfold dPc dP
          rw [gc]
        rw [this]
      obtain ⟨W, w1, w2, w3, w4⟩ := g44_s (es := σ.2.1) (e := e) (ea := g.1) rV sV hc w24 w120 (fun p hp => (wP1 p hp).1) hil hb wb.1 wb.2.2.2.1 v4 v5 NV (by rw [← ed]; omega)
      rw [w1]
      simp only [bS]
      rw [← ed] at w2
      unfold gj43_36
      rw [nI_1]
      obtain ⟨X, x1, x2, x3⟩ := ih n (i + 1) W _ (by omega) (by omega) (EV.o w3 w4) w2 (by rw [List.length_append]; omega)
      exact ⟨X, x1, x2, by rw [List.append_assoc] at x3; exact x3⟩
  exact key m.2.1.length xFuel 0 C l (by omega) (pFuel _ (by omega)) E Nn hl
/-- the one block of a sort -/
theorem ix9_f {l : List Bk} {s : Nat} : ∀ n i, i + n = l.length → match ix9 l s n i with
    | none => ((l.drop i).filter fun b => bSo b == s) = []
    | some k => k < l.length ∧ bSo (l.getD k bkD) = s ∧ ∃ t, ((l.drop i).filter fun b => bSo b == s) = l.getD k bkD :: t := by
  intro n
  induction n with
  | zero =>
    intro i hi
    rw [ix9, List.drop_eq_nil_of_le (by omega)]
    rfl
  | succ n ih =>
    intro i hi
    have hd : l.drop i = l.getD i bkD :: l.drop (i + 1) := by
      rw [List.drop_eq_getElem_cons (by omega), List.getD_eq_getElem?_getD, List.getElem?_eq_getElem (by omega)]
      rfl
    rw [ix9, hd]
    by_cases h : bSo (l.getD i bkD) = s
    · rw [if_pos h, List.filter_cons_of_pos (by simpa using h)]
      exact ⟨by omega, h, _, rfl⟩
    · rw [if_neg h, List.filter_cons_of_neg (by simpa using h)]
      exact ih (i + 1) (by omega)
theorem ix9_1 {l : List Bk} {s : Nat} (h1 : (l.filter fun b => bSo b == s).length ≤ 1) : match ix9 l s l.length 0 with
    | none => (l.filter fun b => bSo b == s) = []
    | some k => k < l.length ∧ bSo (l.getD k bkD) = s ∧ (l.filter fun b => bSo b == s) = [l.getD k bkD] := by
  have := ix9_f (l := l) (s := s) l.length 0 (by omega)
  rw [List.drop_zero] at this
  cases hx : ix9 l s l.length 0 with
  | none =>
    rw [hx] at this
    exact this
  | some k =>
    rw [hx] at this
    obtain ⟨a, b, t, c⟩ := this
    refine ⟨a, b, ?_⟩
    rw [c] at h1 ⊢
    cases t with
    | nil => rfl
    | cons x y =>
      simp at h1
end PC43
