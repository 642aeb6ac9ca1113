section PC37
variable {C C' : xC} {c : Ck} {fs ot w : Nat}
/-- what the breaking of lines reads -/
def brS (C : xC) (c : Ck) (w fs ot : Nat) : Prop := lyS C ∧ ckC C c ∧ cI C 12 c.2.1.length = nI c.1.length ∧ (cI C 8 8 = nI fs ∧ cI C 8 9 = nI ot ∧ cI C 8 7 = nI w) ∧ (cR C 8 5 = some 13 ∧ (cK C 13).2 = 122) ∧ cR C 8 6 = some 14 ∧ (cK C 14).2 = 122
def brE (C C' : xC) : Prop := eqO (fun a => a ≠ 13 ∧ a ≠ 14) C C' ∧ (cK C' 13 = cK C 13 ∧ cK C' 14 = cK C 14) ∧ sm C C'
theorem brS.kp (B : brS C c w fs ot) (E : brE C C') : brS C' c w fs ot := by
  obtain ⟨⟨a1, a2, a3⟩, ⟨b1, b2, b3⟩, d, ⟨e1, e2, e3⟩, ⟨f1, f2⟩, h1, h2⟩ := B
  have x8 := E.1 8 (by decide)
  have x12 := E.1 12 (by decide)
  exact ⟨⟨by rw [x8.2.1]; exact a1, by rw [x8.2.1]; exact a2, by rw [x12.2.2]; exact a3⟩, ⟨b1.kp E.1 (by decide) (by decide), by rw [x8.1]; exact b2, fun i hi => by rw [x12.1]; exact b3 i hi⟩, by rw [x12.1]; exact d, ⟨by rw [x8.1]; exact e1, by rw [x8.1]; exact e2, by rw [x8.1]; exact e3⟩, ⟨by rw [x8.2.1]; exact f1, by rw [E.2.1.1]; exact f2⟩, by rw [x8.2.1]; exact h1, by rw [E.2.1.2]; exact h2⟩
/-- filled lines -/
theorem g37_s (h : c.2.1.length < 122) (hw : w ≤ 60) (hf : fs ≤ 1000) (ho : ot ≤ 1000) (hm : ∀ a b, a ≤ b → b ≤ c.2.1.length → cks0 c a ≤ cks0 c b ∧ cks0 c b ≤ 1200) : ∀ k n i (C : xC), i + k = c.2.1.length → k < n → brS C c w fs ot → (∀ j, j < i → cI C 13 j = nI (fst' c w fs ot j)) → ∃ C', gl37_2 n 8 (nI i) C = some C' ∧ brE C C' ∧ ∀ j, j < c.2.1.length → cI C' 13 j = nI (fst' c w fs ot j) := by
  intro k
  induction k with
  | zero =>
    intro n i C hi hn B L
    obtain ⟨n, rfl⟩ : ∃ x, n = x + 1 := ⟨n - 1, by omega⟩
    rw [gl37_2]
    dsimp only
    rw [B.2.1.2.1, if_pos (nI_le (by omega) (by omega))]
    exact ⟨C, rfl, ⟨eqO.rfl', ⟨rfl, rfl⟩, sm.rfl'⟩, fun j hj => L j (by omega)⟩
  | succ k ih =>
    intro n i C hi hn B L
    obtain ⟨n, rfl⟩ : ∃ x, n = x + 1 := ⟨n - 1, by omega⟩
    obtain ⟨S, K, d, ⟨e1, e2, e3⟩, ⟨f1, f2⟩, _⟩ := id B
    rw [gl37_2]
    dsimp only
    rw [K.2.1, if_neg (nI_ge (by omega) (by omega)), g35_s S K h d e1 e2 e3 hw hf ho hm (by omega)]
    simp only [bS]
    rw [f1]
    simp only [bS]
    rw [cSt_n (n := 122) (by omega) f2 (by decide)]
    simp only [bS]
    rw [nI_1]
    have E1 : brE C (uI C 13 i (nI (fst' c w fs ot i))) := ⟨eqO.uI (fun h9 => h9.1 rfl), ⟨rfl, rfl⟩, rfl, rfl⟩
    obtain ⟨V, v1, v2, v3⟩ := ih n (i + 1) _ (by omega) (by omega) (B.kp E1) (fun j hj => by
      by_cases hji : j = i
      · rw [hji, uI_e]
      · rw [uI_n (by omega)]
        exact L j (by omega))
    exact ⟨V, v1, ⟨E1.1.tr v2.1, ⟨v2.2.1.1.trans E1.2.1.1, v2.2.1.2.trans E1.2.1.2⟩, E1.2.2.tr v2.2.2⟩, v3⟩
end PC37
