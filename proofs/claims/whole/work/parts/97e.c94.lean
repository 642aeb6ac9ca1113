section PC94
variable {C C' C0 : xC} {σ : St} {g : Gh} {es : List En} {Z Z2 : Nat → Nat → Prop} {Q : Nat → Prop}
theorem lkE.mono {Q2 : Nat → Prop} (x : lkE Z Q C C') (h : ∀ a k, Z a k → Z2 a k) (h2 : ∀ a, Q2 a → Q a) : lkE Z2 Q2 C C' := fun a ha => ⟨(x a (h2 a ha)).1, fun k => ((x a (h2 a ha)).2.1 k).imp (h a k) id, (x a (h2 a ha)).2.2⟩
theorem g1_s {b so : Nat} (h : cI C b 1 = nI so) (hs : so < 2 ^ 31) : g1 b C = some (bZ (decide (so = 4 ∨ so = 5)), C) := by
  unfold g1 gj1_16 gj1_21
  rw [h]
  by_cases h5 : so = 4
  · rw [if_pos (by rw [h5]; rfl), decide_eq_true (Or.inl h5)]
    rfl
  · rw [if_neg (show ¬ _ = (4 : Int32) from nI_ne h5 hs (by decide))]
    by_cases h6 : so = 5
    · rw [if_pos (by rw [h6]; rfl), decide_eq_true (Or.inr h6)]
      rfl
    · rw [if_neg (show ¬ _ = (5 : Int32) from nI_ne h6 hs (by decide)), decide_eq_false (by omega)]
      rfl
/-- the link fields of one block -/
def zB (c k f m : Nat) (a j : Nat) : Prop := (a = c + 4 + k ∧ j = 9) ∨ (∃ i, i < m ∧ a = c + 30 + (f + i) ∧ j = 7)
/-- links are resolved -/
theorem g94_s (R : CR C0 σ g) (w : wSt σ) (hQ : ∀ a, g.2.2.2.2.2.2 a < 1000 → Q a) (h3 : Q 3) (h4 : Q 4) (E0 : lkE (lkZ C0 g σ.2.1.length) Q C0 C) {e : Nat} (he : e < σ.2.1.length) {m : Cm} (hm : eCm (gE σ.2.1 e) = some m) {k : Nat} (hk : k < m.2.1.length) {b : Bk} (hb : m.2.1.getD k bkD = b) : ∃ C', g94 3 (some (g.2.2.1 e)) (some (g.2.2.1 e + 4 + k)) C = some C' ∧ lkE (zB (g.2.2.1 e) k (bFi b) (bMa b)) (fun _ => True) C C' ∧ sm C C' ∧ cR C' (g.2.2.1 e + 4 + k) 9 = (if bSo b = 4 ∨ bSo b = 5 then (lead σ.2.1 e (cut m.1 (bNf b) (bNt b))).map g.1 else none) ∧ ∀ i, i < bMa b → pSo (m.2.2.getD (bFi b + i) pcD) = 2 → cR C' (g.2.2.1 e + 30 + (bFi b + i)) 7 = (lead σ.2.1 e (cut m.1 (pNf (m.2.2.getD (bFi b + i) pcD)) (pNt (m.2.2.getD (bFi b + i) pcD)))).map g.1 := by
  have wc := (w.2.1.2 e he).2.2.2.2.2.2.2.2 m hm
  obtain ⟨wt, w24, w120, wB1, wP1, _⟩ := wc
  have wb := wB1 _ (gD_mem (l := m.2.1) (i := k) (d := bkD) hk)
  rw [hb] at wb
  obtain ⟨b1, b2, b3, b4, b5, b6, b7, b8, b9⟩ := wb
  have hne : cR C0 (g.1 e) 7 ≠ none := by rw [((R.2.2.1.2.2 e he).2.2.2.2.2.2 m hm).1]; simp
  have zz : ∀ a j, zB (g.2.2.1 e) k (bFi b) (bMa b) a j → lkZ C0 g σ.2.1.length a j := fun a j hz => by
    refine ⟨e, he, hne, ?_⟩
    rcases hz with hz | ⟨i, i1, i2, i3⟩
    · exact Or.inl ⟨by omega, by omega, hz.2⟩
    · exact Or.inr ⟨by omega, by omega, i3⟩
  -- what holds wherever only these fields change
  have st : ∀ D : xC, lkE (zB (g.2.2.1 e) k (bFi b) (bMa b)) (fun _ => True) C D → cE D g.1 g.2.1 g.2.2.1 σ.2.1 ∧ cR D (g.2.2.1 e) 5 = some (g.1 e) ∧ TX D (g.2.2.1 e + 1) (g.2.2.1 e + 2) 600 m.1 ∧ cRd D (g.2.2.1 e) m.2 ∧ cSh D (g.2.2.1 e) ∧ cR D (g.2.2.1 e) 0 = some (g.2.2.1 e + 1) := fun D ED => by
    have HD := cE_lk R w (E0.tr (ED.mono zz fun _ _ => trivial)) hQ h3 h4
    obtain ⟨x1, x2, x3⟩ := (HD.2.2 e he).2.2.2.2.2.2 m hm
    have xs := (HD.2.2 e he).2.2.2.2.2.1
    rcases xs with xs | xs
    · rw [xs.2] at hm
      cases hm
    · exact ⟨HD, x2, x3.1, x3.2, xs.2, xs.2.1⟩
  generalize hcc : g.2.2.1 e = c at st zz ⊢
  have key : ∀ q n j (D : xC), j + q = bMa b → q < n → lkE (zB c k (bFi b) (bMa b)) (fun _ => True) C D → (∀ i, i < j → pSo (m.2.2.getD (bFi b + i) pcD) = 2 → cR D (c + 30 + (bFi b + i)) 7 = (lead σ.2.1 e (cut m.1 (pNf (m.2.2.getD (bFi b + i) pcD)) (pNt (m.2.2.getD (bFi b + i) pcD)))).map g.1) → ∃ C', gl94_38 n 3 (some c) (some (c + 4 + k)) (nI j) D = some C' ∧ lkE (zB c k (bFi b) (bMa b)) (fun _ => True) C C' ∧ sm D C' ∧ cR C' (c + 4 + k) 9 = cR D (c + 4 + k) 9 ∧ ∀ i, i < bMa b → pSo (m.2.2.getD (bFi b + i) pcD) = 2 → cR C' (c + 30 + (bFi b + i)) 7 = (lead σ.2.1 e (cut m.1 (pNf (m.2.2.getD (bFi b + i) pcD)) (pNt (m.2.2.getD (bFi b + i) pcD)))).map g.1 := by
    intro q
    induction q with
    | zero =>
      intro n j D hj hn ED hl
      obtain ⟨n, rfl⟩ : ∃ x, n = x + 1 := ⟨n - 1, by omega⟩
      obtain ⟨HD, o5, tD, rD, sD, o0⟩ := st D ED
      have bk := rD.1.2 k hk
      rw [hb] at bk
      rw [gl94_38]
      dsimp only
      simp only [bS]
      rw [bk.2.2.2.2.2.1, if_pos (nI_le (by omega) (by omega))]
      exact ⟨D, rfl, ED, sm.rfl', rfl, fun i hi => hl i (by omega)⟩
    | succ q ih =>
      intro n j D hj hn ED hl
      obtain ⟨n, rfl⟩ : ∃ x, n = x + 1 := ⟨n - 1, by omega⟩
      obtain ⟨HD, o5, tD, rD, sD, o0⟩ := st D ED
      have bk := rD.1.2 k hk
      rw [hb] at bk
      have pk := rD.2.2 (bFi b + j) (by omega)
      have wp := wP1 _ (gD_mem (l := m.2.2) (i := bFi b + j) (d := pcD) (by omega))
      rw [gl94_38]
      dsimp only
      simp only [bS]
      rw [bk.2.2.2.2.2.1, if_neg (nI_ge (by omega) (by omega)), bk.2.2.2.2.1, nI_add, g6_s rD sD (by omega)]
      simp only [bS]
      rw [if_neg (show ¬ nI (bFi b + j) < 0 from nI_pos (by omega)), nI_clamp (by omega), if_pos (show bFi b + j < m.2.2.length by omega), if_neg (show ¬ some (c + 30 + (bFi b + j)) = none by simp)]
      simp only [bS]
      rw [pk.1]
      unfold gj94_99
      rw [nI_1]
      by_cases h2 : pSo (m.2.2.getD (bFi b + j) pcD) = 2
      · rw [if_pos (by rw [h2]; rfl), (pk.2.2.2.2.1 h2).1, (pk.2.2.2.2.1 h2).2, o0, o5, g93_s HD w.2.1 tD wp.2.2.2.2.2.1 (by decide) (wp.2.2.2.2.2.2 h2) wp.2.2.2.2.1 he]
        simp only [bS]
        have EU : lkE (zB c k (bFi b) (bMa b)) (fun _ => True) D (uR D (c + 30 + (bFi b + j)) 7 ((lead σ.2.1 e (cut m.1 (pNf (m.2.2.getD (bFi b + j) pcD)) (pNt (m.2.2.getD (bFi b + j) pcD)))).map g.1)) := lkE.uR (Or.inr ⟨j, by omega, rfl, rfl⟩)
        obtain ⟨V, v1, v2, v3, v4, v5⟩ := ih n (j + 1) _ (by omega) (by omega) (ED.tr EU) (fun i hi hp => by
          by_cases hij : i = j
          · rw [hij, uR_e]
          · rw [uR_n (by omega)]
            exact hl i (by omega) hp)
        exact ⟨V, v1, v2, sm.tr (C1 := uR D (c + 30 + (bFi b + j)) 7 _) ⟨rfl, rfl⟩ v3, by rw [v4, uR_n (by omega)], v5⟩
      · rw [if_neg (show ¬ _ = (2 : Int32) from nI_ne h2 (by have := wp.1; omega) (by decide))]
        exact ih n (j + 1) D (by omega) (by omega) ED (fun i hi hp => by
          by_cases hij : i = j
          · rw [hij] at hp
            exact absurd hp h2
          · exact hl i (by omega) hp)
  have EU1 : lkE (zB c k (bFi b) (bMa b)) (fun _ => True) C (uR C (c + 4 + k) 9 none) := lkE.uR (Or.inl ⟨rfl, rfl⟩)
  obtain ⟨HD, o5, tD, rD, sD, o0⟩ := st _ EU1
  have bk := rD.1.2 k hk
  rw [hb] at bk
  unfold g94 gj94_36
  simp only [bS]
  rw [g1_s bk.2.1 (by omega)]
  simp only [bS, bZ_0]
  by_cases hs : bSo b = 4 ∨ bSo b = 5
  · rw [decide_eq_true hs, if_neg (show ¬ true = false by decide), if_pos hs]
    have n7 := bk.2.2.2.2.2.2.1 (by rcases hs with hs | hs <;> rw [hs] <;> decide) (by omega)
    rw [n7.1, n7.2, o0, o5, g93_s HD w.2.1 tD b6 (by decide) (b7 hs) b5 he]
    simp only [bS]
    obtain ⟨V, v1, v2, v3, v4, v5⟩ := key (bMa b) xFuel 0 _ (by omega) (pFuel _ (by omega)) (EU1.tr (lkE.uR (a := c + 4 + k) (k := 9) (v := (lead σ.2.1 e (cut m.1 (bNf b) (bNt b))).map g.1) (Or.inl ⟨rfl, rfl⟩))) (fun i hi => absurd hi (Nat.not_lt_zero _))
    exact ⟨V, v1, v2, sm.tr (C1 := uR (uR C (c + 4 + k) 9 none) (c + 4 + k) 9 _) ⟨rfl, rfl⟩ v3, by rw [v4, uR_e], v5⟩
  · rw [decide_eq_false hs, if_pos (Eq.refl false), if_neg hs]
    obtain ⟨V, v1, v2, v3, v4, v5⟩ := key (bMa b) xFuel 0 _ (by omega) (pFuel _ (by omega)) EU1 (fun i hi => absurd hi (Nat.not_lt_zero _))
    exact ⟨V, v1, v2, sm.tr (C1 := uR C (c + 4 + k) 9 none) ⟨rfl, rfl⟩ v3, by rw [v4, uR_e], v5⟩
end PC94
