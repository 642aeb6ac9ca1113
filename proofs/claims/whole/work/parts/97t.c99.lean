section PC99
variable {C C' : xC} {t b room : Nat}
/-- a word -/
theorem g99_s (hne : t ≠ b) {q : Nat} (hq : q < 9) : ∀ k n i (C : xC) (bs : List Nat), i + k = (wQ q).length → k < n → bs.length + k ≤ room → TX C t b room bs → ∃ C', gl99_2 n t q (nI i) C = some C' ∧ TX C' t b room (bs ++ (wQ q).drop i) ∧ eqO (fun a => a ≠ t ∧ a ≠ b) C C' ∧ sm C C' := by
  obtain ⟨w1, w2, w3⟩ := wQ_ok q hq
  intro k
  induction k with
  | zero =>
    intro n i C bs hi hn hr T
    obtain ⟨n, rfl⟩ : ∃ x, n = x + 1 := ⟨n - 1, by omega⟩
    rw [gl99_2]
    dsimp only
    rw [w2]
    simp only [bS]
    rw [if_pos (nI_le (by omega) (by omega)), List.drop_eq_nil_of_le (by omega), List.append_nil]
    exact ⟨C, rfl, T, eqO.rfl', sm.rfl'⟩
  | succ k ih =>
    intro n i C bs hi hn hr T
    obtain ⟨n, rfl⟩ : ∃ x, n = x + 1 := ⟨n - 1, by omega⟩
    have hil : i < (wQ q).length := by omega
    obtain ⟨x1, x2⟩ := w3 i hil
    rw [gl99_2]
    dsimp only
    rw [w2]
    simp only [bS]
    rw [if_neg (nI_ge (by omega) (by omega)), x1]
    simp only [bS]
    obtain ⟨D, d1, d2, d3, d4⟩ := g97_s T (by omega) hne (nI ((wQ q).getD i 999))
    rw [d1]
    simp only [bS]
    rw [nI_1]
    rw [bOf_nI x2] at d2
    obtain ⟨V, v1, v2, v3, v4⟩ := ih n (i + 1) D _ (by omega) (by omega) (by simp; omega) d2
    refine ⟨V, v1, ?_, d3.tr v3, d4.tr v4⟩
    rw [List.append_assoc] at v2
    have e : (wQ q).drop i = [(wQ q).getD i 999] ++ (wQ q).drop (i + 1) := by
      rw [List.drop_eq_getElem_cons hil, List.getD_eq_getElem?_getD, List.getElem?_eq_getElem hil]
      rfl
    rw [e]
    exact v2
theorem g99_o {bs : List Nat} (T : TX C t b room bs) (hne : t ≠ b) {q : Nat} (hq : q < 9) (hr : bs.length + (wQ q).length ≤ room) : ∃ C', g99 t q C = some C' ∧ TX C' t b room (bs ++ wQ q) ∧ eqO (fun a => a ≠ t ∧ a ≠ b) C C' ∧ sm C C' := by
  have w1 := (wQ_ok q hq).1
  have := g99_s hne hq (wQ q).length xFuel 0 C bs (by omega) (pFuel _ (by omega)) hr T
  rw [List.drop_zero] at this
  exact this
end PC99
