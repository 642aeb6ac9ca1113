section PCTEXT
/-- a Text of the class at t, its bytes at b -/
def TX (C : xC) (t b room : Nat) (bs : List Nat) : Prop := cR C t 0 = some b ∧ cI C t 1 = nI bs.length ∧ (cK C b).2 = room ∧ room < 2 ^ 30 ∧ bs.length ≤ room ∧ ∀ i, i < bs.length → bs.getD i 999 < 256 ∧ cI C b i = sb_b (bs.getD i 999)
variable {C : xC} {t b room : Nat} {bs : List Nat}
theorem g96_s (T : TX C t b room bs) {i : Nat} (hi : i < 2 ^ 31) : g96 t (nI i) C = some (bI (bs.getD i 999), C) := by
  obtain ⟨t1, t2, t3, t4, t5, t6⟩ := T
  unfold g96
  rw [if_neg (nI_pos hi), t2]
  by_cases h : i < bs.length
  · rw [if_pos (nI_lt h (by omega)), t1]
    simp only [Option.bind_some, cLd]
    rw [t3, if_pos (xout_nI (by omega) (by omega)), nI_clamp hi]
    simp only [Option.bind_some]
    rw [(t6 i h).2, (sb_byte _ (t6 i h).1).1, bI_lt (t6 i h).1]
    rfl
  · rw [if_neg (nI_nlt (by omega) hi)]
    have : bs.getD i 999 = 999 := by simp [List.getD_eq_getElem?_getD, List.getElem?_eq_none (show bs.length ≤ i by omega)]
    rw [this]
    rfl
theorem g105_s (T : TX C t b room bs) {c i e : Nat} (hc : c < 256) (hi : i ≤ e) (he : e < 1000000) : g105 t (nI c) (nI i) (nI e) C = some (nI (sc (fun j => bs.getD j 999 == c) i (e - i)), C) := by
  unfold g105
  refine l_sc (fun n j => gl105_3 n t (nI c) (nI i) (nI e) (nI j) C) _ (fun j => some (nI j, C)) e (fun n => ?_) (fun n j hj hp => ?_) (fun n j hj hp => ?_) (e - i) xFuel i (by omega) (pFuel _ (by omega))
  · simp (disch := omega) only [gl105_3, nI_leI]
    rw [if_pos (Nat.le_refl _)]
    rfl
  · simp (disch := omega) only [gl105_3, nI_leI, g96_s T, Option.bind_some, bI_eq hc]
    rw [if_neg (by omega), if_pos (by simpa using hp)]
    rfl
  · simp (disch := omega) only [gl105_3, nI_leI, g96_s T, Option.bind_some, bI_eq hc]
    rw [if_neg (by omega), if_neg (by simpa using hp), nI_1]
end PCTEXT
