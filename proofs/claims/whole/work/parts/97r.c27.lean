section PC27
variable {C C' : xC}
/-- the number, as it is shown -/
def mkB (k : Nat) : List Nat := if k = 0 then [91, 63, 93] else if 9 < k then [91, 48 + k / 10, 48 + k % 10, 93] else [91, 48 + k % 10, 93]
theorem mark_b (ts : List Nat) (t : Option Nat) : (mark ts t).1 = mkB (match t with
    | none => 0
    | some e => ts.findIdx (fun x => x == e) + 1) := by
  cases t with
  | none => rfl
  | some e =>
    unfold mkB
    dsimp only
    rw [if_neg (by omega)]
    rfl
/-- a mark -/
theorem g27_s {t b room : Nat} {bs : List Nat} (T : TX C t b room bs) (hne : t ≠ b) (hr : bs.length + 4 ≤ room) {k : Nat} (hk : k ≤ 40) : ∃ C', g27 (some t) (nI k) C = some C' ∧ TX C' t b room (bs ++ mkB k) ∧ eqO (fun a => a ≠ t ∧ a ≠ b) C C' ∧ sm C C' := by
  obtain ⟨D, d1, d2, d3, d4⟩ := g97_s T (by omega) hne (nI 91)
  rw [bOf_nI (by decide)] at d2
  have l1 : (bs ++ [91]).length = bs.length + 1 := by simp
  -- the last two bytes
  have e42 : ∀ (D : xC) (l : List Nat) (c : Nat), l.length + 2 ≤ room → c < 256 → TX D t b room l → eqO (fun a => a ≠ t ∧ a ≠ b) C D → sm C D → ∃ C', gj27_42 (some t) (nI k) (some t) (nI c) D = some C' ∧ TX C' t b room (l ++ [c, 93]) ∧ eqO (fun a => a ≠ t ∧ a ≠ b) C C' ∧ sm C C' := fun D l c hl hc TD ED SD => by
    unfold gj27_42
    simp only [bS]
    obtain ⟨V, v1, v2, v3, v4⟩ := g97_s TD (by omega) hne (nI c)
    rw [v1]
    simp only [bS]
    rw [bOf_nI hc] at v2
    obtain ⟨X, x1, x2, x3, x4⟩ := g97_s v2 (by simp; omega) hne (nI 93)
    rw [show (93 : Int32) = nI 93 from rfl, x1]
    rw [bOf_nI (by decide), List.append_assoc] at x2
    exact ⟨X, rfl, x2, (ED.tr v3).tr x3, (SD.tr v4).tr x4⟩
  have e25 : ∀ (D : xC) (l : List Nat), l.length + 2 ≤ room → TX D t b room l → eqO (fun a => a ≠ t ∧ a ≠ b) C D → sm C D → ∃ C', gj27_25 (some t) (nI k) D = some C' ∧ TX C' t b room (l ++ [if k = 0 then 63 else 48 + k % 10, 93]) ∧ eqO (fun a => a ≠ t ∧ a ≠ b) C C' ∧ sm C C' := fun D l hl TD ED SD => by
    unfold gj27_25
    by_cases h : k = 0
    · rw [if_pos (show nI k ≤ 0 by rw [h]; decide), if_pos h]
      exact e42 D l 63 hl (by decide) TD ED SD
    · rw [if_neg (show ¬ nI k ≤ 0 from nI_ge (a := 0) (b := k) (by omega) (by omega)), if_neg h]
      have hx : (48 : Int32) + xrem (nI k) 10 = nI (48 + k % 10) := by
        rw [show xrem (nI k) 10 = nI (k % 10) from pk_rem (d := 10) (by omega) (by decide) (by decide), show (48 : Int32) = nI 48 from rfl, nI_add]
      rw [hx]
      exact e42 D l (48 + k % 10) hl (by omega) TD ED SD
  unfold g27
  simp only [bS]
  rw [show (91 : Int32) = nI 91 from rfl, d1]
  simp only [bS]
  unfold mkB
  by_cases h10 : k < 10
  · rw [if_pos (show nI k < 10 from nI_lt (b := 10) h10 (by decide))]
    obtain ⟨X, x1, x2, x3, x4⟩ := e25 D _ (by omega) d2 d3 d4
    refine ⟨X, x1, ?_, x3, x4⟩
    rw [List.append_assoc] at x2
    by_cases h : k = 0
    · rw [if_pos h] at x2 ⊢
      exact x2
    · rw [if_neg h] at x2 ⊢
      rw [if_neg (by omega)]
      exact x2
  · rw [if_neg (show ¬ nI k < 10 from nI_nlt (b := 10) (by omega) (by omega))]
    have hx : (48 : Int32) + nI k / 10 = nI (48 + k / 10) := by
      rw [show nI k / 10 = nI (k / 10) from pk_div (d := 10) (by omega) (by decide) (by decide), show (48 : Int32) = nI 48 from rfl, nI_add]
    obtain ⟨V, v1, v2, v3, v4⟩ := g97_s d2 (by omega) hne (nI (48 + k / 10))
    rw [hx, v1]
    simp only [bS]
    rw [bOf_nI (by omega)] at v2
    obtain ⟨X, x1, x2, x3, x4⟩ := e25 V _ (by simp; omega) v2 (d3.tr v3) (d4.tr v4)
    refine ⟨X, x1, ?_, x3, x4⟩
    rw [if_neg (by omega), if_pos (by omega)]
    rw [if_neg (by omega), List.append_assoc, List.append_assoc] at x2
    exact x2
end PC27
