section PCTG
variable {C C' : xC} {d : Nat} {bs : List Nat} {r : Rd} {F : Option (Nat × Nat)} {to : Nat}
theorem g139_s : ∀ s, 2 ≤ s → s ≤ 6 → g139 (nI s) C = some (s + 1, C) := by
  intro s h1 h2
  have : s = 2 ∨ s = 3 ∨ s = 4 ∨ s = 5 ∨ s = 6 := by omega
  rcases this with rfl | rfl | rfl | rfl | rfl <;> rfl
theorem wQ_t : ∀ s, 2 ≤ s → s ≤ 6 → wQ (s + 1) = wTag s ∧ (wTag s).length < 10 := by
  intro s h1 h2
  have : s = 2 ∨ s = 3 ∨ s = 4 ∨ s = 5 ∨ s = 6 := by omega
  rcases this with rfl | rfl | rfl | rfl | rfl <;> decide
/-- the sort of a tag -/
theorem g70_s (R : rS C d bs) {i e : Nat} (hi : i ≤ e) (he : e < 1000) : g70 5 (nI i) (nI e) C = some (if tgSo (tx bs) i e = 0 then -1 else nI (tgSo (tx bs) i e), C) := by
  obtain ⟨⟨a1, a2⟩, b, t, hd⟩ := R
  have st : ∀ n s, 2 ≤ s → s ≤ 6 → gl70_2 (n + 1) 5 (nI i) (nI e) (nI s) C = if e - i = (wTag s).length ∧ isW (tx bs) i (wTag s) = true then some (nI s, C) else gl70_2 n 5 (nI i) (nI e) (nI (s + 1)) C := fun n s h1 h2 => by
    have hw := wQ_t s h1 h2
    have hq := (wQ_ok (s + 1) (by omega)).2.1
    have w0 := g104_s t (i := i) (q := s + 1) (by omega) (by omega)
    rw [hw.1] at hq w0
    rw [gl70_2]
    dsimp only
    rw [if_neg (show ¬ (6 : Int32) < nI s from nI_nlt (a := 6) (by omega) (by decide)), g139_s s h1 h2]
    simp only [bS]
    rw [hq]
    simp only [bS]
    rw [pk_sub hi]
    unfold gj70_40
    rw [nI_1]
    by_cases h3 : e - i = (wTag s).length
    · rw [if_pos (by rw [h3]), a2]
      simp only [bS]
      rw [w0]
      simp only [bS, bZ_0]
      cases h4 : isW (tx bs) i (wTag s) with
      | true => rw [if_neg (show ¬ true = false by decide), if_pos ⟨h3, rfl⟩]
      | false => rw [if_pos (Eq.refl false), if_neg fun h9 => by cases h9.2]
    · rw [if_neg (nI_ne (fun h9 => h3 h9.symm) (by omega) (by omega)), if_neg fun h9 => h3 h9.1]
  unfold g70
  rw [show (2 : Int32) = nI 2 from rfl, show xFuel = (xFuel - 6) + 1 + 1 + 1 + 1 + 1 + 1 by decide, st _ 2 (by decide) (by decide), st _ 3 (by decide) (by decide), st _ 4 (by decide) (by decide), st _ 5 (by decide) (by decide), st _ 6 (by decide) (by decide), gl70_2]
  dsimp only
  rw [if_pos (show (6 : Int32) < nI 7 by decide)]
  unfold tgSo
  rw [show (wTag 2).length = 5 from rfl, show (wTag 3).length = 6 from rfl, show (wTag 4).length = 6 from rfl, show (wTag 5).length = 3 from rfl, show (wTag 6).length = 5 from rfl]
  by_cases c2 : e - i = 5 ∧ isW (tx bs) i (wTag 2) = true
  · rw [if_pos c2, if_pos c2]; rfl
  rw [if_neg c2, if_neg c2]
  by_cases c3 : e - i = 6 ∧ isW (tx bs) i (wTag 3) = true
  · rw [if_pos c3, if_pos c3]; rfl
  rw [if_neg c3, if_neg c3]
  by_cases c4 : e - i = 6 ∧ isW (tx bs) i (wTag 4) = true
  · rw [if_pos c4, if_pos c4]; rfl
  rw [if_neg c4, if_neg c4]
  by_cases c5 : e - i = 3 ∧ isW (tx bs) i (wTag 5) = true
  · rw [if_pos c5, if_pos c5]; rfl
  rw [if_neg c5, if_neg c5]
  by_cases c6 : e - i = 5 ∧ isW (tx bs) i (wTag 6) = true
  · rw [if_pos c6, if_pos c6]; rfl
  rw [if_neg c6, if_neg c6]
  rfl
/-- a parameter of that name -/
theorem g10_s (S : cSh C d) (t : TX C (d + 1) (d + 2) 600 bs) (T : cRd C d r) (h25 : r.1.length ≤ 25) (hB : ∀ b ∈ r.1, bSo b ≤ 7 ∧ bNf b ≤ bNt b ∧ bNt b ≤ bs.length) {q y room : Nat} {nm : List Nat} (U : TX C q y room nm) : g10 d (some q) C = some (bZ (r.1.any fun b => decide (bSo b = 2) && decide (cut bs (bNf b) (bNt b) = nm)), C) := by
  obtain ⟨⟨t1, t2⟩, t3, t4⟩ := T
  obtain ⟨s1, s2, s3, ⟨s4, s5, s6⟩, s7, s8, s9⟩ := S
  have key : ∀ k n i, i + k = r.1.length → k < n → gl10_2 n d (some q) (nI i) C = some (bZ ((r.1.drop i).any fun b => decide (bSo b = 2) && decide (cut bs (bNf b) (bNt b) = nm)), C) := by
    intro k
    induction k with
    | zero =>
      intro n i hi hn
      obtain ⟨n, rfl⟩ : ∃ m, n = m + 1 := ⟨n - 1, by omega⟩
      rw [gl10_2]
      dsimp only
      rw [t1, if_pos (nI_le (by omega) (by omega)), List.drop_eq_nil_of_le (by omega)]
      rfl
    | succ k ih =>
      intro n i hi hn
      obtain ⟨n, rfl⟩ : ∃ m, n = m + 1 := ⟨n - 1, by omega⟩
      have hb := hB _ (gD_mem (l := r.1) (i := i) (d := bkD) (by omega))
      have b := t2 i (by omega)
      rw [show r.1.drop i = r.1.getD i bkD :: r.1.drop (i + 1) by
        rw [List.drop_eq_getElem_cons (by omega), List.getD_eq_getElem?_getD, List.getElem?_eq_getElem (by omega)]
        rfl, List.any_cons]
      generalize r.1.getD i bkD = x at hb b ⊢
      rw [gl10_2]
      dsimp only
      rw [t1, if_neg (nI_ge (by omega) (by omega)), s4]
      simp only [bS]
      rw [cLR_n (n := 25) (by omega) s5 (by decide), s6 _ (by omega)]
      simp only [bS]
      rw [b.2.1]
      unfold gj10_46
      rw [nI_1]
      by_cases h : bSo x = 2
      · rw [if_pos (by rw [h]; rfl), decide_eq_true h, s1]
        have n7 := b.2.2.2.2.2.2.1 (by rw [h]; decide) (by omega)
        rw [n7.1, n7.2, g103_s U t hb.2.1 hb.2.2 (by decide)]
        simp only [bS, bZ_0]
        by_cases h2 : nm = cut bs (bNf x) (bNt x)
        · rw [decide_eq_true h2, if_neg (show ¬ true = false by decide), decide_eq_true h2.symm]
          rfl
        · rw [decide_eq_false h2, if_pos (Eq.refl false), decide_eq_false fun h9 => h2 h9.symm, ih n (i + 1) (by omega) (by omega)]
          rfl
      · rw [if_neg (show ¬ _ = (2 : Int32) from nI_ne h (by omega) (by decide)), decide_eq_false h, ih n (i + 1) (by omega) (by omega)]
        rfl
  have := key r.1.length xFuel 0 (by omega) (pFuel _ (by omega))
  rw [List.drop_zero] at this
  exact this
/-- the parameter is there twice -/
theorem g73_s (R : rS C d bs) (N : nS C) (T : cRd C d r) (h25 : r.1.length ≤ 25) (h120 : r.2.length ≤ 120) (hB : ∀ b ∈ r.1, bSo b ≤ 7 ∧ bNf b ≤ bNt b ∧ bNt b ≤ bs.length) {a z : Nat} (ha : a ≤ z) (hz : z ≤ bs.length) (h10 : z - a ≤ 10) : ∃ C', g73 5 (nI a) (nI z) C = some (bZ (r.1.any fun b => decide (bSo b = 2) && decide (cut bs (bNf b) (bNt b) = cut bs a z)), C') ∧ eqO (fun x => x ≠ 6 ∧ x ≠ 7) C C' ∧ sm C C' ∧ nS C' := by
  obtain ⟨⟨a1, a2⟩, b, t, hd⟩ := id R
  obtain ⟨n1, nm, n2⟩ := N
  unfold g73
  rw [n1]
  simp only [bS]
  obtain ⟨D, d1, d2, d3, d4⟩ := g101_0 n2 (by decide)
  rw [d1]
  simp only [bS]
  rw [(d3 5 (by decide)).2.1, (d3 5 (by decide)).2.1, n1, a2]
  simp only [bS]
  obtain ⟨V, v1, v2, v3, v4⟩ := g100_s d2 (t.kp d3 (by omega) (by omega)) (by decide) ⟨by omega, by omega, by omega, by omega⟩ ha hz (by show 0 + (z - a) ≤ 10; omega) (by decide)
  rw [v1]
  simp only [bS]
  rw [List.nil_append] at v2
  have E : eqO (fun x => x ≠ 6 ∧ x ≠ 7) C V := (d3.mono fun x hx => hx.1).tr v3
  rw [(E 5 (by decide)).2.1, (E 5 (by decide)).2.1, a1, n1]
  simp only [bS]
  rw [g10_s (b.kp E fun i hi => by omega) (t.kp E (by omega) (by omega)) (T.kp E h25 h120 fun i hi => by omega) h25 hB v2]
  simp only [bS]
  rw [if_pos bZ_p]
  exact ⟨V, rfl, E, d4.tr v4, by rw [(E 5 (by decide)).2.1]; exact n1, _, v2⟩
end PCTG
