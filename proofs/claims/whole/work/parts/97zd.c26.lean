section PC26
variable {C C' C0 C1 C2 D : xC} {w p : Nat} {g : Gh} {es : List En} {ts : List Nat}
theorem lwE.t (hp : 20 ≤ p) (E : eqO (fun a => a ≠ 10 ∧ a ≠ 11) C C') (s : sm C C') : lwE p C C' := (ckE.of hp (lyE.t E s)).lw
theorem lyV.t (hp : 20 ≤ p) {l : List Nat} (L : lyV C w) (T : TX C' 10 11 1200 l) (E : eqO (fun a => a ≠ 10 ∧ a ≠ 11) C C') (s : sm C C') : lyV C' w := L.kp (lwE.t hp E s) ⟨⟨(E 12 (by decide)).2.2, (E 13 (by decide)).2.2, (E 14 (by decide)).2.2⟩, l, T⟩
theorem lyV.v (hp : 20 ≤ p) (L : lyV C w) (E : pvE p C C') : lyV C' w := by
  obtain ⟨l, T⟩ := L.2.1
  have o8 : ∀ a, 8 ≤ a → a ≤ 14 → (fun a => a ≠ p ∧ a ≠ p + 1 ∧ a ≠ p + 2 ∧ a ≠ p + 3) a := fun a h1 h2 => ⟨by omega, by omega, by omega, by omega⟩
  exact L.kp (E.lw hp) ⟨⟨(E.1 12 (o8 12 (by decide) (by decide))).2.2, (E.1 13 (o8 13 (by decide) (by decide))).2.2, (E.1 14 (o8 14 (by decide) (by decide))).2.2⟩, l, T.kp E.1 (o8 10 (by decide) (by decide)) (o8 11 (by decide) (by decide))⟩
theorem tgC.v (T : tgC C p g ts) (E : pvE p C C') : tgC C' p g ts := by
  have q4 := E.1 (p + 4) ⟨by omega, by omega, by omega, by omega⟩
  exact ⟨by rw [E.2.1]; exact T.1, by rw [q4.2.2]; exact T.2.1, by rw [E.2.2.1]; exact T.2.2.1, fun i hi => by rw [q4.2.1]; exact T.2.2.2 i hi⟩
/-- the targets -/
theorem g26_l (hp : 20 ≤ p) (w0 : wE es) (HE : ∀ D, lwE p C0 D → cE D g.1 g.2.1 g.2.2.1 es) (np : ∀ e, e < es.length → ∀ i, i < 4 → g.1 e + i ≠ p ∧ g.1 e + i ≠ p + 1 ∧ g.1 e + i ≠ p + 2 ∧ g.1 e + i ≠ p + 3) (h40 : ts.length ≤ 40) (hlt : ∀ e ∈ ts, e < es.length) (s : Int32) : ∀ m n k (o : Ou) (C : xC), k + m = ts.length → m < n → lwE p C0 C → lyV C w → pgW C p o [] → ouW o → o.1.length + 30 * m < 2 ^ 26 → tgC C p g ts → cI C p 5 = s → ∃ C', gl26_13 n 8 (some p) (nI (k + 1)) C = some C' ∧ pgW C' p (tgts es (k + 1) (ts.drop k) o) [] ∧ tgC C' p g ts ∧ cI C' p 5 = s ∧ lyV C' w ∧ lwE p C0 C' := by
  intro m
  induction m with
  | zero =>
    intro n k o C hk hn E V W how hol T h5
    obtain ⟨n, rfl⟩ : ∃ x, n = x + 1 := ⟨n - 1, by omega⟩
    rw [gl26_13]
    dsimp only
    simp only [bS]
    rw [T.2.2.1, if_pos (nI_lt (by omega) (by omega)), List.drop_eq_nil_of_le (by omega)]
    exact ⟨C, rfl, W, T, h5, V, E⟩
  | succ m ih =>
    intro n k o C hk hn E V W how hol T h5
    obtain ⟨n, rfl⟩ : ∃ x, n = x + 1 := ⟨n - 1, by omega⟩
    have hkl : k < ts.length := by omega
    have he := hlt _ (gD_mem (l := ts) (i := k) (d := 0) hkl)
    have hd : ts.drop k = ts.getD k 0 :: ts.drop (k + 1) := by
      rw [List.drop_eq_getElem_cons hkl, List.getD_eq_getElem?_getD, List.getElem?_eq_getElem hkl]
      rfl
    rw [hd, tgts]
    generalize hee : ts.getD k 0 = e at he
    have mk : (if 9 < k + 1 then [91, 48 + (k + 1) / 10, 48 + (k + 1) % 10, 93] else [91, 48 + (k + 1) % 10, 93]) = mkB (k + 1) := by
      unfold mkB
      rw [if_neg (show ¬ k + 1 = 0 by omega)]
    rw [mk]
    obtain ⟨l, T0⟩ := V.2.1
    rw [gl26_13]
    dsimp only
    simp only [bS]
    rw [T.2.2.1, if_neg (nI_nlt (by omega) (by omega))]
    have e57 : g57 p (nI (k + 1)) C = some (some (g.1 e), C) := by
      unfold g57 gj57_25
      rw [if_neg (show ¬ nI (k + 1) < 1 from nI_nlt (b := 1) (by omega) (by omega)), T.2.2.1, if_pos (nI_le (by omega) (by omega)), T.1]
      simp only [bS]
      rw [nI_s1 (by omega), Nat.add_sub_cancel, cLR_n (n := 40) (by omega) T.2.1 (by decide), T.2.2.2 k hkl, hee]
      simp only [bS]
    rw [e57]
    simp only [bS]
    rw [if_neg (show ¬ some (g.1 e) = none by simp), V.1.1]
    simp only [bS]
    obtain ⟨D, d1, d2, d3, d4⟩ := g101_0 T0 (by decide)
    rw [d1]
    simp only [bS]
    have d3 : eqO (fun a => a ≠ 10 ∧ a ≠ 11) C D := d3.mono fun a ha => ha.1
    have VD := V.t hp d2 d3 d4
    rw [VD.1.1]
    obtain ⟨F, f1, f2, f3, f4⟩ := g27_s d2 (by decide) (by decide) (k := k + 1) (by omega)
    rw [f1]
    simp only [bS]
    have VF := VD.t hp f2 f3 f4
    rw [VF.1.1]
    simp only [bS]
    rw [List.nil_append] at f2
    rw [f2.2.1]
    have ef := d3.tr f3
    have WF : pgW F p o [] := W.kp ef ⟨⟨by omega, by omega⟩, ⟨by omega, by omega⟩, by omega, by omega⟩ (ef p ⟨by omega, by omega⟩).2.1 fun k _ => (ef p ⟨by omega, by omega⟩).1 k
    have TF : tgC F p g ts := T.kp ef ⟨by omega, by omega⟩ ⟨by omega, by omega⟩
    have EF : lwE p C0 F := E.tr (lwE.t hp ef (d4.tr f4))
    obtain ⟨G, g1, g2, g3⟩ := g54_o (p := p) ⟨⟨by omega, by omega, by omega, by omega⟩, by omega, by omega, by omega, by omega⟩ (by decide) (Nat.zero_le (mkB (k + 1)).length) (Nat.le_refl _) f2 WF
    rw [show g54 p (some 10) 0 (nI (mkB (k + 1)).length) F = g54 p (some 10) (nI 0) (nI (mkB (k + 1)).length) F from Eq.refl _, g1]
    simp only [bS]
    rw [cut_all, List.nil_append] at g2
    obtain ⟨X, x1, x2, x3⟩ := g52_s g2 (c := 32) (by decide)
    rw [show (32 : Int32) = nI 32 from rfl, x1]
    simp only [bS]
    have EX : lwE p C0 X := EF.tr ((g3.tr x3).v.lw hp)
    obtain ⟨Y, y1, y2, y3⟩ := g55_s w0 (fun D ED => HE D (EX.tr (ED.v.lw hp))) np he x2
    rw [y1]
    simp only [bS]
    obtain ⟨Z, z1, z2, z3⟩ := g56_s y2 (by have := how.2; omega)
    rw [z1]
    simp only [bS]
    unfold gj26_78
    rw [nI_1]
    have Ez := ((g3.tr x3).tr y3).tr z3
    have hn := eNam_len w0 he
    have hmk : (mkB (k + 1)).length ≤ 4 := by
      unfold mkB
      rw [if_neg (show ¬ k + 1 = 0 by omega)]
      split <;> simp
    obtain ⟨R, r1, r2, r3, r4, r5, r6⟩ := ih n (k + 1) _ Z (by omega) (by omega) (EF.tr (Ez.v.lw hp)) (VF.v hp Ez.v) z2 (ouL_w how _) (by rw [ouL_len, List.length_append, List.length_append, List.length_singleton]; omega) (TF.v Ez.v) (by rw [Ez.2.2.2.1, (ef p ⟨by omega, by omega⟩).1]; exact h5)
    exact ⟨R, r1, r2, r3, r4, r5, r6⟩
theorem g26_s (hp : 20 ≤ p) (w0 : wE es) (HE : ∀ D, lwE p C0 D → cE D g.1 g.2.1 g.2.2.1 es) (np : ∀ e, e < es.length → ∀ i, i < 4 → g.1 e + i ≠ p ∧ g.1 e + i ≠ p + 1 ∧ g.1 e + i ≠ p + 2 ∧ g.1 e + i ≠ p + 3) {d : Dr} (E : lwE p C0 C) (V : lyV C w) (R : pgR C p g es.length d) (hol : d.1.1.length < 2 ^ 24) : ∃ C', g26 8 (some p) C = some C' ∧ pgW C' p (tgts es 1 d.2.1 (if d.2.1 = [] then d.1 else ouL d.1 [])) [] ∧ tgC C' p g d.2.1 ∧ cI C' p 5 = nI d.2.2 ∧ lyV C' w ∧ lwE p C0 C' := by
  obtain ⟨W, how, T, hT, h5⟩ := R
  have h40 : d.2.1.length ≤ 40 := Nat.le_trans (nd_len _ _ hT.2.1 hT.2.2) hT.1
  have go : ∀ (D : xC) (o : Ou), lwE p C0 D → lyV D w → pgW D p o [] → ouW o → o.1.length < 2 ^ 25 → tgC D p g d.2.1 → cI D p 5 = nI d.2.2 → ∃ C', gj26_11 8 (some p) D = some C' ∧ pgW C' p (tgts es 1 d.2.1 o) [] ∧ tgC C' p g d.2.1 ∧ cI C' p 5 = nI d.2.2 ∧ lyV C' w ∧ lwE p C0 C' := fun D o ED VD WD ho hl TD h5 => by
    have := g26_l hp w0 HE np h40 hT.2.2 (nI d.2.2) d.2.1.length xFuel 0 o D (by omega) (pFuel _ (by omega)) ED VD WD ho (by omega) TD h5
    rw [List.drop_zero] at this
    exact this
  unfold g26
  simp only [bS]
  rw [T.2.2.1]
  by_cases h0 : d.2.1 = []
  · rw [if_pos (by rw [h0]; decide), if_pos h0]
    exact go C d.1 E V W how (by omega) T h5
  · have hl : 0 < d.2.1.length := List.length_pos_iff.mpr h0
    rw [if_neg (show ¬ nI d.2.1.length ≤ 0 from nI_ge (a := 0) hl (by omega)), if_neg h0]
    obtain ⟨X, x1, x2, x3⟩ := g56_s W (by have := how.2; omega)
    rw [x1]
    simp only [bS]
    exact go X _ (E.tr (x3.v.lw hp)) (V.v hp x3.v) x2 (ouL_w how _) (by rw [ouL_len]; simp; omega) (T.v x3.v) (by rw [x3.2.2.2.1]; exact h5)
end PC26
