section PCN3
variable {C C' : xC}
/-- an array is filled with new cells -/
def fillC (ci A : Nat) : Nat → Nat → xC → xC
  | 0, _, D => D
  | k + 1, i, D => fillC ci A k (i + 1) (uR (cNew D ci) A i (some D.1))
theorem fill_f {ci A : Nat} : ∀ k i (D : xC), A < D.1 → (fillC ci A k i D).1 = D.1 + k ∧ (fillC ci A k i D).2.1 = D.2.1 + k * cN ci ∧ eqO (fun a => a < D.1 ∧ a ≠ A) D (fillC ci A k i D) ∧ cK (fillC ci A k i D) A = cK D A ∧ ∀ j, cR (fillC ci A k i D) A j = if i ≤ j ∧ j < i + k then some (D.1 + (j - i)) else cR D A j := by
  intro k
  induction k with
  | zero =>
    intro i D hA
    refine ⟨rfl, by show D.2.1 = _; omega, eqO.rfl', rfl, fun j => ?_⟩
    rw [if_neg (by omega)]
    rfl
  | succ k ih =>
    intro i D hA
    have e1 : (uR (cNew D ci) A i (some D.1)).1 = D.1 + 1 := rfl
    have e2 : (uR (cNew D ci) A i (some D.1)).2.1 = D.2.1 + cN ci := rfl
    obtain ⟨h1, h2, h3, h4, h5⟩ := ih (i + 1) (uR (cNew D ci) A i (some D.1)) (by rw [e1]; omega)
    rw [fillC]
    refine ⟨by rw [h1, e1]; omega, by rw [h2, e2, Nat.succ_mul]; omega, ?_, ?_, fun j => ?_⟩
    · exact ((eqO.add (fun h9 => absurd h9.1 (Nat.lt_irrefl _))).tr (eqO.uR (fun h9 => h9.2 rfl))).tr (h3.mono fun a ha => ⟨by rw [e1]; omega, ha.2⟩)
    · rw [h4, uR_K]
      unfold cNew
      rw [cAdd_K, if_neg (by omega)]
    · rw [h5, e1]
      by_cases hj : j = i
      · rw [if_neg (by omega), if_pos (by omega), hj, uR_e, Nat.sub_self, Nat.add_zero]
      · by_cases h : i + 1 ≤ j ∧ j < i + 1 + k
        · rw [if_pos h, if_pos (by omega), show D.1 + 1 + (j - (i + 1)) = D.1 + (j - i) by omega]
        · rw [if_neg h, if_neg (by omega), uR_n (by omega)]
          unfold cNew
          rw [cAdd_R, if_neg (by omega)]
theorem g3_b {c : Nat} : ∀ k n i (D : xC), i + k = 120 → k < n → cR D c 2 = some (c + 29) → (cK D (c + 29)).2 = 120 → c + 29 < D.1 → gl3_68 n c (nI i) D = some (fillC 6 (c + 29) k i D) := by
  intro k
  induction k with
  | zero =>
    intro n i D hi hn h2 hK hA
    obtain ⟨n, rfl⟩ : ∃ m, n = m + 1 := ⟨n - 1, by omega⟩
    rw [gl3_68]
    dsimp only
    rw [h2]
    simp only [bS]
    rw [hK, if_pos (show Int32.ofNat 120 ≤ nI i from nI_le (a := 120) (by omega) (by omega))]
    rfl
  | succ k ih =>
    intro n i D hi hn h2 hK hA
    obtain ⟨n, rfl⟩ : ∃ m, n = m + 1 := ⟨n - 1, by omega⟩
    rw [gl3_68]
    dsimp only
    rw [h2]
    simp only [bS]
    rw [hK, if_neg (show ¬ Int32.ofNat 120 ≤ nI i from nI_ge (b := 120) (by omega) (by decide))]
    unfold g59
    simp only [bS]
    have hK2 : (cK (cNew D 6) (c + 29)).2 = 120 := by
      unfold cNew
      rw [cAdd_K, if_neg (by omega)]
      exact hK
    rw [cSR_n (n := 120) (by omega) hK2 (by decide)]
    simp only [bS]
    rw [nI_1, fillC]
    refine ih n (i + 1) _ (by omega) (by omega) ?_ hK2 ?_
    · rw [uR_n (by omega)]
      unfold cNew
      rw [cAdd_R, if_neg (by omega)]
      exact h2
    · show c + 29 < D.1 + 1
      omega
theorem g3_a {c : Nat} : ∀ k n i (D : xC), i + k = 25 → k < n → cR D c 1 = some (c + 3) → (cK D (c + 3)).2 = 25 → c + 3 < D.1 → gl3_29 n c (nI i) D = (cNA (fillC 0 (c + 3) k i D) 17 120).bind fun C_4 => (some (uR C_4 c 2 (some (fillC 0 (c + 3) k i D).1))).bind fun C_7 => gl3_68 xFuel c 0 C_7 := by
  intro k
  induction k with
  | zero =>
    intro n i D hi hn h2 hK hA
    obtain ⟨n, rfl⟩ : ∃ m, n = m + 1 := ⟨n - 1, by omega⟩
    rw [gl3_29]
    dsimp only
    rw [h2]
    simp only [bS]
    rw [hK, if_pos (show Int32.ofNat 25 ≤ nI i from nI_le (a := 25) (by omega) (by omega)), fillC]
  | succ k ih =>
    intro n i D hi hn h2 hK hA
    obtain ⟨n, rfl⟩ : ∃ m, n = m + 1 := ⟨n - 1, by omega⟩
    rw [gl3_29]
    dsimp only
    rw [h2]
    simp only [bS]
    rw [hK, if_neg (show ¬ Int32.ofNat 25 ≤ nI i from nI_ge (b := 25) (by omega) (by decide))]
    unfold g0
    simp only [bS]
    have hK2 : (cK (cNew D 0) (c + 3)).2 = 25 := by
      unfold cNew
      rw [cAdd_K, if_neg (by omega)]
      exact hK
    rw [cSR_n (n := 25) (by omega) hK2 (by decide)]
    simp only [bS]
    have := ih n (i + 1) (uR (cNew D 0) (c + 3) i (some D.1)) (by omega) (by omega) (by
      rw [uR_n (by omega)]
      unfold cNew
      rw [cAdd_R, if_neg (by omega)]
      exact h2) hK2 (by
      show c + 3 < D.1 + 1
      omega)
    rw [nI_1, fillC]
    simp only [bS] at this
    exact this
/-- a new comment's cells -/
theorem g3_s {c : Nat} (hc : C.1 = c) : ∃ C', g3 c (cNew C 1) = some C' ∧ cSh C' c ∧ TX C' (c + 1) (c + 2) 600 [] ∧ eqO (fun a => a < c) C C' ∧ C'.1 = c + 150 ∧ C'.2.1 ≤ C.2.1 + 2400 := by
  subst hc
  unfold g3
  simp only [bS]
  rw [show (cNew C 1).1 = C.1 + 1 from rfl, lt_600, g95_s (by decide)]
  simp only [bS]
  rw [show (cNew (cNew C 1) 9).1 = C.1 + 2 from rfl, lt_25, cNA_n (by decide)]
  simp only [bS]
  rw [show (uR (uR (cAdd (cNew (cNew C 1) 9) 12 600) (C.1 + 1) 0 (some (C.1 + 2))) C.1 0 (some (C.1 + 1))).1 = C.1 + 3 from rfl]
  -- the cells so far
  have A1 : eqO (fun a => a < C.1) C (cNew C 1) := eqO.add (fun h9 => absurd h9 (Nat.lt_irrefl _))
  have A2 : eqO (fun a => a < C.1) (cNew C 1) (cNew (cNew C 1) 9) := eqO.add (fun h9 => absurd h9 (by show ¬ C.1 + 1 < C.1; omega))
  have A3 : eqO (fun a => a < C.1) (cNew (cNew C 1) 9) (cAdd (cNew (cNew C 1) 9) 12 600) := eqO.add (fun h9 => absurd h9 (by show ¬ C.1 + 2 < C.1; omega))
  have A4 : eqO (fun a => a < C.1) (cAdd (cNew (cNew C 1) 9) 12 600) (uR (uR (cAdd (cNew (cNew C 1) 9) 12 600) (C.1 + 1) 0 (some (C.1 + 2))) C.1 0 (some (C.1 + 1))) := (eqO.uR (fun h9 => absurd h9 (by omega))).tr (eqO.uR (fun h9 => absurd h9 (by omega)))
  have A5 : eqO (fun a => a < C.1) (uR (uR (cAdd (cNew (cNew C 1) 9) 12 600) (C.1 + 1) 0 (some (C.1 + 2))) C.1 0 (some (C.1 + 1))) (cAdd (uR (uR (cAdd (cNew (cNew C 1) 9) 12 600) (C.1 + 1) 0 (some (C.1 + 2))) C.1 0 (some (C.1 + 1))) 15 25) := eqO.add (fun h9 => absurd h9 (by show ¬ C.1 + 3 < C.1; omega))
  have E1 : eqO (fun a => a < C.1) C (uR (cAdd (uR (uR (cAdd (cNew (cNew C 1) 9) 12 600) (C.1 + 1) 0 (some (C.1 + 2))) C.1 0 (some (C.1 + 1))) 15 25) C.1 1 (some (C.1 + 3))) := ((((A1.tr A2).tr A3).tr A4).tr A5).tr (eqO.uR (fun h9 => absurd h9 (by omega)))
  have z1 : (uR (cAdd (uR (uR (cAdd (cNew (cNew C 1) 9) 12 600) (C.1 + 1) 0 (some (C.1 + 2))) C.1 0 (some (C.1 + 1))) 15 25) C.1 1 (some (C.1 + 3))).1 = C.1 + 4 := rfl
  have z2 : (uR (cAdd (uR (uR (cAdd (cNew (cNew C 1) 9) 12 600) (C.1 + 1) 0 (some (C.1 + 2))) C.1 0 (some (C.1 + 1))) 15 25) C.1 1 (some (C.1 + 3))).2.1 = C.2.1 + cN 1 + cN 9 + 600 + 25 := rfl
  have r0 : cR (uR (cAdd (uR (uR (cAdd (cNew (cNew C 1) 9) 12 600) (C.1 + 1) 0 (some (C.1 + 2))) C.1 0 (some (C.1 + 1))) 15 25) C.1 1 (some (C.1 + 3))) C.1 0 = some (C.1 + 1) := by
    simp [uR_I, uR_R, uR_K, cNew, cAdd_I, cAdd_R, cAdd_K, cAdd_1, uR_1, show ¬ C.1 = C.1 + 1 + 1 + 1 by omega, show ¬ C.1 = C.1 + 1 + 1 by omega]
  have r1 : cR (uR (cAdd (uR (uR (cAdd (cNew (cNew C 1) 9) 12 600) (C.1 + 1) 0 (some (C.1 + 2))) C.1 0 (some (C.1 + 1))) 15 25) C.1 1 (some (C.1 + 3))) C.1 1 = some (C.1 + 3) := uR_e
  have r2 : cR (uR (cAdd (uR (uR (cAdd (cNew (cNew C 1) 9) 12 600) (C.1 + 1) 0 (some (C.1 + 2))) C.1 0 (some (C.1 + 1))) 15 25) C.1 1 (some (C.1 + 3))) (C.1 + 1) 0 = some (C.1 + 2) := by
    simp [uR_I, uR_R, uR_K, cNew, cAdd_I, cAdd_R, cAdd_K, cAdd_1, uR_1, show ¬ C.1 = C.1 + 1 + 1 + 1 by omega, show ¬ C.1 = C.1 + 1 + 1 by omega]
  have r3 : (cK (uR (cAdd (uR (uR (cAdd (cNew (cNew C 1) 9) 12 600) (C.1 + 1) 0 (some (C.1 + 2))) C.1 0 (some (C.1 + 1))) 15 25) C.1 1 (some (C.1 + 3))) (C.1 + 2)).2 = 600 := by
    simp [uR_I, uR_R, uR_K, cNew, cAdd_I, cAdd_R, cAdd_K, cAdd_1, uR_1, show ¬ C.1 = C.1 + 1 + 1 + 1 by omega, show ¬ C.1 = C.1 + 1 + 1 by omega]
  have r4 : (cK (uR (cAdd (uR (uR (cAdd (cNew (cNew C 1) 9) 12 600) (C.1 + 1) 0 (some (C.1 + 2))) C.1 0 (some (C.1 + 1))) 15 25) C.1 1 (some (C.1 + 3))) (C.1 + 3)).2 = 25 := by
    simp [uR_I, uR_R, uR_K, cNew, cAdd_I, cAdd_R, cAdd_K, cAdd_1, uR_1, show ¬ C.1 = C.1 + 1 + 1 + 1 by omega, show ¬ C.1 = C.1 + 1 + 1 by omega]
  have r5 : cI (uR (cAdd (uR (uR (cAdd (cNew (cNew C 1) 9) 12 600) (C.1 + 1) 0 (some (C.1 + 2))) C.1 0 (some (C.1 + 1))) 15 25) C.1 1 (some (C.1 + 3))) (C.1 + 1) 1 = 0 := by
    simp [uR_I, uR_R, uR_K, cNew, cAdd_I, cAdd_R, cAdd_K, cAdd_1, uR_1, show ¬ C.1 = C.1 + 1 + 1 + 1 by omega, show ¬ C.1 = C.1 + 1 + 1 by omega]
  generalize uR (cAdd (uR (uR (cAdd (cNew (cNew C 1) 9) 12 600) (C.1 + 1) 0 (some (C.1 + 2))) C.1 0 (some (C.1 + 1))) 15 25) C.1 1 (some (C.1 + 3)) = D at E1 z1 z2 r0 r1 r2 r3 r4 r5 ⊢
  have ga := g3_a (c := C.1) 25 xFuel 0 D (by omega) (by decide) r1 r4 (by rw [z1]; omega)
  rw [show gl3_29 xFuel C.1 0 D = gl3_29 xFuel C.1 (nI 0) D from rfl, ga]
  obtain ⟨f1, f2, f3, f4, f5⟩ := fill_f (ci := 0) (A := C.1 + 3) 25 0 D (by rw [z1]; omega)
  rw [z1] at f1 f3 f5
  generalize fillC 0 (C.1 + 3) 25 0 D = V at f1 f2 f3 f4 f5 ⊢
  rw [lt_120, cNA_n (by decide)]
  simp only [bS]
  rw [f1]
  -- the pieces
  have E2 : eqO (fun a => a < C.1 + 29 ∧ a ≠ C.1) V (uR (cAdd V 17 120) C.1 2 (some (C.1 + 29))) := (eqO.add (fun h9 => by rw [f1] at h9; omega)).tr (eqO.uR (fun h9 => h9.2 rfl))
  have y1 : (uR (cAdd V 17 120) C.1 2 (some (C.1 + 4 + 25))).1 = C.1 + 30 := by show V.1 + 1 = _; rw [f1]
  have y2 : (uR (cAdd V 17 120) C.1 2 (some (C.1 + 4 + 25))).2.1 = V.2.1 + 120 := rfl
  have y3 : cR (uR (cAdd V 17 120) C.1 2 (some (C.1 + 4 + 25))) C.1 2 = some (C.1 + 29) := uR_e
  have y4 : (cK (uR (cAdd V 17 120) C.1 2 (some (C.1 + 4 + 25))) (C.1 + 29)).2 = 120 := by rw [uR_K, cAdd_K, if_pos (by rw [f1])]
  have y5 : ∀ k, k ≠ 2 → cR (uR (cAdd V 17 120) C.1 2 (some (C.1 + 4 + 25))) C.1 k = cR V C.1 k := fun k hk => by rw [uR_n (by omega), cAdd_R, if_neg (by rw [f1]; omega)]
  have E2 : eqO (fun a => a < C.1 + 29 ∧ a ≠ C.1) V (uR (cAdd V 17 120) C.1 2 (some (C.1 + 4 + 25))) := E2
  generalize uR (cAdd V 17 120) C.1 2 (some (C.1 + 4 + 25)) = W at E2 y1 y2 y3 y4 y5 ⊢
  have gb := g3_b (c := C.1) 120 xFuel 0 W (by omega) (by decide) y3 y4 (by rw [y1]; omega)
  rw [show gl3_68 xFuel C.1 0 W = gl3_68 xFuel C.1 (nI 0) W from rfl, gb]
  obtain ⟨h1, h2, h3, h4, h5⟩ := fill_f (ci := 6) (A := C.1 + 29) 120 0 W (by rw [y1]; omega)
  rw [y1] at h1 h3 h5
  generalize fillC 6 (C.1 + 29) 120 0 W = X at h1 h2 h3 h4 h5 ⊢
  -- cells under C.1 + 29 but C.1 and C.1 + 3
  have E3 : eqO (fun a => a < C.1 + 29 ∧ a ≠ C.1) V X := E2.tr (h3.mono fun a ha => ⟨by omega, by omega⟩)
  have E4 : eqO (fun a => a < C.1 + 4 ∧ a ≠ C.1 + 3 ∧ a ≠ C.1) D X := (f3.mono fun a ha => ⟨ha.1, ha.2.1⟩).tr (E3.mono fun a ha => ⟨by omega, ha.2.2⟩)
  have k0 : ∀ k, k ≠ 2 → cR X C.1 k = cR D C.1 k := fun k hk => by rw [(h3 C.1 ⟨by omega, by omega⟩).2.1, y5 k hk, (f3 C.1 ⟨by omega, by omega⟩).2.1]
  have k2 : cR X C.1 2 = some (C.1 + 29) := by rw [(h3 C.1 ⟨by omega, by omega⟩).2.1]; exact y3
  have x1 := E4 (C.1 + 1) ⟨by omega, by omega, by omega⟩
  have x2 := E4 (C.1 + 2) ⟨by omega, by omega, by omega⟩
  have x3 := E3 (C.1 + 3) ⟨by omega, by omega⟩
  have TT : TX X (C.1 + 1) (C.1 + 2) 600 [] := ⟨by rw [x1.2.1]; exact r2, by rw [x1.1]; exact r5, by rw [x2.2.2]; exact r3, by decide, Nat.zero_le _, fun i hi => absurd hi (Nat.not_lt_zero _)⟩
  refine ⟨X, rfl, ⟨by rw [k0 0 (by decide)]; exact r0, by rw [x1.2.1]; exact r2, ⟨[], TT⟩, ⟨by rw [k0 1 (by decide)]; exact r1, by rw [x3.2.2, f4]; exact r4, fun i hi => ?_⟩, k2, by rw [h4]; exact y4, fun i hi => ?_⟩, TT, (E1.tr (E4.mono fun a ha => ⟨by omega, by omega, by omega⟩)), by rw [h1], ?_⟩
  · rw [x3.2.1, f5, if_pos (by omega), Nat.sub_zero]
  · rw [h5, if_pos (by omega), Nat.sub_zero]
  · rw [h2, y2, f2, z2]
    have : cN 1 = 6 ∧ cN 9 = 2 ∧ cN 0 = 10 ∧ cN 6 = 8 := by decide
    omega
end PCN3
