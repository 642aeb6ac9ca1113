section PC35
variable {C : xC} {c : Ck} {fs ot w : Nat}
theorem cols_lt {i j : Nat} (hj : j ≤ c.2.1.length) (h : c.2.1.length < 122) (hl : cks0 c j ≤ 1200) (hf : fs ≤ 1000) (ho : ot ≤ 1000) : cols c fs ot i j < 10000 := by
  unfold cols
  split <;> omega
/-- as much as a line holds -/
theorem g35_s (S : lyS C) (K : ckC C c) (h : c.2.1.length < 122) (hcl : cI C 12 c.2.1.length = nI c.1.length) (f8 : cI C 8 8 = nI fs) (f9 : cI C 8 9 = nI ot) (f7 : cI C 8 7 = nI w) (hw : w ≤ 60) (hf : fs ≤ 1000) (ho : ot ≤ 1000) (hm : ∀ a b, a ≤ b → b ≤ c.2.1.length → cks0 c a ≤ cks0 c b ∧ cks0 c b ≤ 1200) {i : Nat} (hi : i < c.2.1.length) : g35 8 (nI i) C = some (nI (fst' c w fs ot i), C) := by
  have key : ∀ k n j, j + k = c.2.1.length → k < n → i < j → gl35_4 n 8 (nI i) (nI j) C = some (nI (fill c w fs ot i j k), C) := by
    intro k
    induction k with
    | zero =>
      intro n j hj hn hij
      obtain ⟨n, rfl⟩ : ∃ x, n = x + 1 := ⟨n - 1, by omega⟩
      rw [gl35_4, fill]
      dsimp only
      rw [K.2.1, if_pos (nI_le (by omega) (by omega))]
      rfl
    | succ k ih =>
      intro n j hj hn hij
      obtain ⟨n, rfl⟩ : ∃ x, n = x + 1 := ⟨n - 1, by omega⟩
      have hc := cols_lt (c := c) (fs := fs) (ot := ot) (i := i) (j := j + 1) (by omega) h (hm 0 (j + 1) (by omega) (by omega)).2 hf ho
      rw [gl35_4, fill]
      dsimp only
      rw [K.2.1, if_neg (nI_ge (by omega) (by omega)), nI_1, g33_s S K h hcl f8 f9 (show i < j + 1 by omega) (by omega) (hm i (j + 1) (by omega) (by omega)).1]
      simp only [bS]
      rw [f7]
      by_cases h9 : cols c fs ot i (j + 1) ≤ w
      · rw [if_neg (nI_nlt h9 (by omega)), if_pos h9]
        exact ih n (j + 1) (by omega) (by omega) (by omega)
      · rw [if_pos (nI_lt (by omega) (by omega)), if_neg h9]
        rfl
  unfold g35 fst'
  rw [nI_1]
  exact key (c.2.1.length - (i + 1)) xFuel (i + 1) (by omega) (pFuel _ (by omega)) (by omega)
/-- badness -/
theorem g36_s (S : lyS C) (K : ckC C c) (h : c.2.1.length < 122) (hcl : cI C 12 c.2.1.length = nI c.1.length) (f8 : cI C 8 8 = nI fs) (f9 : cI C 8 9 = nI ot) (f7 : cI C 8 7 = nI w) (hw : w ≤ 60) (hf : fs ≤ 1000) (ho : ot ≤ 1000) (hm : ∀ a b, a ≤ b → b ≤ c.2.1.length → cks0 c a ≤ cks0 c b ∧ cks0 c b ≤ 1200) {i j : Nat} (hij : i < j) (hj : j ≤ c.2.1.length) : g36 8 (nI i) (nI j) C = some (nI (bdn c w fs ot i j), C) := by
  unfold g36 gj36_27 bdn
  rw [K.2.1]
  by_cases h1 : j < c.2.1.length
  · have hc := cols_lt (c := c) (fs := fs) (ot := ot) (i := i) (j := j) hj h (hm 0 j (by omega) hj).2 hf ho
    rw [if_neg (nI_ge h1 (by omega)), if_pos h1, g33_s S K h hcl f8 f9 hij hj (hm i j (by omega) hj).1]
    simp only [bS]
    rw [f7]
    have ex : xmax 0 (nI w - nI (cols c fs ot i j)) = nI (w - cols c fs ot i j) := by
      by_cases h9 : cols c fs ot i j ≤ w
      · rw [pk_sub h9, xmax_n (by omega)]
      · rw [show w - cols c fs ot i j = 0 by omega]
        unfold xmax
        have h3 : nI w - nI (cols c fs ot i j) < 0 := pk_sneg (a := w) (b := cols c fs ot i j) (by omega) (by omega)
        have h2 : ¬ (0 : Int32) < nI w - nI (cols c fs ot i j) := fun h4 => Int32.lt_irrefl (Int32.lt_trans h3 h4)
        rw [if_neg h2]
        rfl
    rw [ex, pk_mul]
  · rw [if_pos (nI_le (by omega) (by omega)), if_neg h1]
    rfl
end PC35
