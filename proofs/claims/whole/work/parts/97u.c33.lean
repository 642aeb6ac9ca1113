section PC33
variable {C : xC} {c : Ck} {fs ot w : Nat}
/-- columns of a line -/
theorem g33_s (S : lyS C) (K : ckC C c) (h : c.2.1.length < 122) (hcl : cI C 12 c.2.1.length = nI c.1.length) (f8 : cI C 8 8 = nI fs) (f9 : cI C 8 9 = nI ot) {i j : Nat} (hij : i < j) (hj : j ≤ c.2.1.length) (hm : cks0 c i ≤ cks0 c j) : g33 8 (nI i) (nI j) C = some (nI (cols c fs ot i j), C) := by
  have e15 : ∀ s : Nat, gj33_15 8 (nI i) (nI j) (nI s) C = some (nI (s + (cks0 c j - cks0 c i) + (j - i - 1)), C) := fun s => by
    unfold gj33_15
    rw [g34_s S K h hcl hj]
    simp only [bS]
    rw [g34_s S K h hcl (by omega)]
    simp only [bS]
    rw [nI_add, pk_sub (show cks0 c i ≤ s + cks0 c j by omega), nI_add, pk_sub (show i ≤ s + cks0 c j - cks0 c i + j by omega), nI_s1 (by omega)]
    congr 3
    omega
  unfold g33 cols
  by_cases h0 : i = 0
  · rw [if_pos (show nI i = 0 by rw [h0]; rfl), if_pos h0, f8]
    exact e15 fs
  · rw [if_neg (nI_ne0 (by omega) (by omega)), if_neg h0, f9]
    exact e15 ot
end PC33
