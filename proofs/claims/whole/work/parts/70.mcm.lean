section PMCM
variable {S : mS} {bs : List Nat}
/-- the lines -/
theorem g177_l {mb : Bool} : ∀ m n p c gap (r : Rd) (S : mS), bs.length < p + m → m < n → aF S 12 24000 (tx bs) bs.length → rdL S r gap mb → c ≤ p → c ≤ bs.length → wRd (tx bs) bs.length c r → (r.1.length = 0 → gap = true) → p ≤ bs.length + 1 → ∃ S', gl177_84 n (nI bs.length) (nI p) S = some S' ∧ rF rdJ S S' ∧ match rdAll bs mb m p gap r with
    | (r2, none) => mRd S' 40 r2 ∧ S'.1 31 = 0
    | (_, some q) => S'.1 31 = nI q.1 ∧ S'.1 32 = nI q.2 := by
  intro m
  induction m with
  | zero =>
    intro n p c gap r S hm hn A L _ _ w hg hp
    have hN := A.n600
    obtain ⟨n, rfl⟩ : ∃ k, n = k + 1 := ⟨n - 1, by omega⟩
    rw [gl177_84]
    dsimp only
    rw [if_pos (nI_le (by omega) (by omega))]
    exact ⟨S, rfl, rF.rfl', L.1, L.2.1⟩
  | succ m ih =>
    intro n p c gap r S hm hn A L hc hc2 w hg hp
    have hN := A.n600
    obtain ⟨n, rfl⟩ : ∃ k, n = k + 1 := ⟨n - 1, by omega⟩
    rw [rdAll]
    by_cases h : bs.length ≤ p
    · rw [if_pos h, gl177_84]
      dsimp only
      rw [if_pos (nI_le (by omega) (by omega))]
      exact ⟨S, rfl, rF.rfl', L.1, L.2.1⟩
    · rw [if_neg h]
      have l1 := ln_end (bs := bs) p (by omega)
      have l2 := rdLine_w (mb := mb) (gap := gap) l1.2.1 l1.2.2 (w.mono hc) l1.1 hg
      obtain ⟨T, t1, t2, t3⟩ := g177_1 A (show p < bs.length by omega) L (w.mono hc) hg n
      rw [t1]
      dsimp only
      generalize sc (fun j => tx bs j == 10) p (bs.length - p) = to at l1 l2 t3 ⊢
      cases hq : rdLine bs mb p to gap r with
      | mk r2 o =>
        rw [hq] at t3 l2
        cases o with
        | none =>
          dsimp only at t3 l2 ⊢
          obtain ⟨l3, l4⟩ := l2 rfl
          obtain ⟨V, v1, v2, v3⟩ := ih n (to + 1) to _ r2 T (by omega) (by omega) (t2.aF A) t3 (by omega) l1.2.1 l3 l4 (by omega)
          exact ⟨V, v1, t2.tr v2, v3⟩
        | some q =>
          dsimp only at t3 ⊢
          obtain ⟨n, rfl⟩ : ∃ k, n = k + 1 := ⟨n - 1, by omega⟩
          rw [gl177_84]
          dsimp only
          by_cases h2 : bs.length ≤ to + 1
          · rw [if_pos (nI_le h2 (by omega))]
            exact ⟨T, rfl, t2, t3⟩
          · rw [if_neg (nI_ge (by omega) (by omega)), t3.1]
            sorry
end PMCM
