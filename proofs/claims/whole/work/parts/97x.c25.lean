section PC25
variable {C : xC}
def apB (b : Bk) (a : Option Bk) : Bool := match a with
  | none => true
  | some a => if isTg (bSo b) = true then !isTg (bSo a) else !bJo b
/-- whether a blank line stands before a block -/
theorem g25_s {x : Nat} {b : Bk} (h1 : cI C x 1 = nI (bSo b)) (h8 : cI C x 8 = bZ (bJo b)) (hb : bSo b ≤ 7) {y : Option Nat} {a : Option Bk} (ha : match a with
    | none => y = none
    | some a => ∃ z, y = some z ∧ cI C z 1 = nI (bSo a) ∧ bSo a ≤ 7) : g25 y (some x) C = some (bZ (apB b a), C) := by
  unfold g25 gj25_46 apB
  cases a with
  | none =>
    have ha : y = none := ha
    rw [if_pos ha]
    rfl
  | some a =>
    obtain ⟨z, z1, z2, z3⟩ := ha
    subst z1
    rw [if_neg (show ¬ some z = none by simp)]
    simp only [bS]
    rw [h1, g138_s (by omega)]
    simp only [bS, bZ_0]
    cases isTg (bSo b) with
    | false =>
      rw [if_pos (Eq.refl false), h8, if_neg (show ¬ false = true by decide)]
      cases bJo b <;> rfl
    | true =>
      rw [if_neg (show ¬ true = false by decide), if_pos (Eq.refl true), z2, g138_s (by omega)]
      simp only [bS, bZ_0]
      cases isTg (bSo a) <;> rfl
end PC25
