section PSPL
variable {bs : List Nat} {a to : Nat} {r : Rd}
theorem tgSo_le {f : Nat → Nat} {i e : Nat} : tgSo f i e ≤ 6 ∧ (tgSo f i e ≠ 0 → 2 ≤ tgSo f i e) := by
  unfold tgSo
  split
  · omega
  split
  · omega
  split
  · omega
  split
  · omega
  split <;> omega
theorem rdTag_w (ht : to ≤ bs.length) (hE : tx bs to = 10 ∨ 256 ≤ tx bs to) (w : wRd (tx bs) bs.length a r) {fi : Nat} (hf : fi < to) (ha : a ≤ fi) (h : (rdTag bs fi to r).2 = none) : wRd (tx bs) bs.length to (rdTag bs fi to r).1 ∧ 0 < (rdTag bs fi to r).1.1.length := by
  have e1 := sc_ge (fun j => tx bs j == 32) (to - (fi + 1)) (fi + 1)
  unfold rdTag at h ⊢
  dsimp only at h ⊢
  generalize sc (fun j => tx bs j == 32) (fi + 1) (to - (fi + 1)) = e at e1 h ⊢
  have t1 := tgSo_le (f := tx bs) (i := fi + 1) (e := e)
  generalize tgSo (tx bs) (fi + 1) e = so at t1 h ⊢
  by_cases c0 : so = 0
  · rw [if_pos c0] at h
    cases h
  rw [if_neg c0] at h ⊢
  by_cases c1 : r.1.length = 24
  · rw [if_pos c1] at h
    cases h
  rw [if_neg c1] at h ⊢
  by_cases c2 : (so = 3 ∨ so = 6) ∧ (r.1.any fun b => bSo b == so) = true
  · rw [if_pos c2] at h
    cases h
  rw [if_neg c2] at h ⊢
  have l24 : r.1.length < 24 := by have := w.1; omega
  have h3 : so = 3 → (r.1.any fun b => bSo b == 3) = false := fun h9 => by
    subst h9
    exact Bool.eq_false_iff.mpr fun h8 => c2 ⟨Or.inl rfl, h8⟩
  have h7 : so = 7 → (r.1.any fun b => bSo b == 7) = false := fun h9 => by omega
  by_cases c3 : so = 3
  · rw [if_pos c3] at h ⊢
    have wb : wB (tx bs) bs.length r.2.length (3, fi, 0, r.2.length, 0, e, e, false) := ⟨by show 3 ≤ 7; decide, by show fi < _; omega, Nat.zero_le _, Nat.le_refl _, Nat.le_refl _, by show e ≤ _; omega, fun h9 => absurd h9 (by show ¬ (3 = 4 ∨ 3 = 5); decide), fun h9 => absurd h9 (by show ¬ 3 = 2; decide), fun h9 => absurd h9 (by show ¬ 3 = 6; decide)⟩
    have o := opn_w w l24 wb (fun _ => h3 c3) (fun h9 => absurd h9 (by decide)) (fun h9 => by cases h9)
    exact rdPcs_w ht hE o.1 o.2 (by omega) (by omega) h
  rw [if_neg c3] at h ⊢
  have k1 := skp_ge (f := tx bs) (show e ≤ to by omega)
  generalize skp (tx bs) e to = p at k1 h ⊢
  have z1 := sc_ge (fun j => tx bs j == 32) (to - p) p
  generalize sc (fun j => tx bs j == 32) p (to - p) = z at z1 h ⊢
  by_cases c4 : (if so = 2 then nmOK (tx bs) p (z - p) else if so = 6 then nuOK (tx bs) p (z - p) else rfOK (tx bs) p (z - p)) = false
  · rw [if_pos c4] at h
    cases h
  rw [if_neg c4] at h ⊢
  rw [Bool.not_eq_false] at c4
  by_cases c5 : so = 2 ∧ (r.1.any fun b => decide (bSo b = 2) && decide (cut bs (bNf b) (bNt b) = cut bs p z)) = true
  · rw [if_pos c5] at h
    cases h
  rw [if_neg c5] at h ⊢
  have wb : wB (tx bs) bs.length r.2.length (so, fi, 0, r.2.length, 0, p, z, false) := by
    refine ⟨by show so ≤ 7; omega, by show fi < _; omega, Nat.zero_le _, Nat.le_refl _, by show p ≤ z; omega, by show z ≤ _; omega, fun h9 => ?_, fun h9 => ?_, fun h9 => ?_⟩
    · have h9 : so = 4 ∨ so = 5 := h9
      rw [if_neg (by omega), if_neg (by omega)] at c4
      exact c4
    · have h9 : so = 2 := h9
      rw [if_pos h9] at c4
      exact c4
    · have h9 : so = 6 := h9
      rw [if_neg (by omega), if_pos h9] at c4
      exact c4
  have o := opn_w w l24 wb h3 h7 (fun h9 => by cases h9)
  by_cases c6 : so = 5 ∨ so = 6
  · rw [if_pos c6] at h ⊢
    exact ⟨o.1.mono (by omega), o.2⟩
  · rw [if_neg c6] at h ⊢
    exact rdPcs_w ht hE o.1 o.2 (by omega) (by omega) h
theorem rdLine_w (ht : to ≤ bs.length) (hE : tx bs to = 10 ∨ 256 ≤ tx bs to) {mb gap : Bool} {p : Nat} (w : wRd (tx bs) bs.length p r) (hp : p ≤ to) (hg : r.1.length = 0 → gap = true) (h : (rdLine bs mb p to gap r).2 = none) : wRd (tx bs) bs.length to (rdLine bs mb p to gap r).1 ∧ ((rdLine bs mb p to gap r).1.1.length = 0 → decide (to ≤ skp (tx bs) p to) = true) := by
  have k1 := skp_ge (f := tx bs) hp
  unfold rdLine at h ⊢
  dsimp only at h ⊢
  generalize skp (tx bs) p to = x at k1 h ⊢
  by_cases c0 : to ≤ x
  · rw [if_pos c0]
    exact ⟨w.mono hp, fun _ => decide_eq_true c0⟩
  rw [if_neg c0] at h ⊢
  have fin : ∀ q : Rd × Option (Nat × Nat), wRd (tx bs) bs.length to q.1 ∧ 0 < q.1.1.length → wRd (tx bs) bs.length to q.1 ∧ (q.1.1.length = 0 → decide (to ≤ x) = true) := fun q hq => ⟨hq.1, fun h9 => by have := hq.2; omega⟩
  by_cases c1 : tx bs x = 64
  · rw [if_pos c1] at h ⊢
    exact fin _ (rdTag_w ht hE w (by omega) (by omega) h)
  rw [if_neg c1] at h ⊢
  by_cases c2 : isIt (tx bs) x to = true
  · rw [if_pos c2] at h ⊢
    exact fin _ (rdItem_w ht hE w (by omega) (by omega) h)
  rw [if_neg c2] at h ⊢
  exact fin _ (rdText_w ht hE w (by omega) (by omega) hg h)
theorem ln_end (p : Nat) (hp : p ≤ bs.length) : p ≤ sc (fun j => tx bs j == 10) p (bs.length - p) ∧ sc (fun j => tx bs j == 10) p (bs.length - p) ≤ bs.length ∧ (tx bs (sc (fun j => tx bs j == 10) p (bs.length - p)) = 10 ∨ 256 ≤ tx bs (sc (fun j => tx bs j == 10) p (bs.length - p))) := by
  have a1 := sc_ge (fun j => tx bs j == 10) (bs.length - p) p
  have a2 := sc_at (fun j => tx bs j == 10) (bs.length - p) p
  generalize sc (fun j => tx bs j == 10) p (bs.length - p) = to at a1 a2 ⊢
  refine ⟨a1.1, by omega, ?_⟩
  by_cases h : to < bs.length
  · have := a2 (by omega)
    rw [beq_iff_eq] at this
    exact Or.inl this
  · rw [tx_out (by omega)]
    exact Or.inr (by decide)
theorem rdAll_w {mb : Bool} : ∀ m p c gap (r : Rd), c ≤ p → c ≤ bs.length → wRd (tx bs) bs.length c r → (r.1.length = 0 → gap = true) → (rdAll bs mb m p gap r).2 = none → wR (tx bs) bs.length (rdAll bs mb m p gap r).1 := by
  intro m
  induction m with
  | zero =>
    intro p c gap r h1 h2 w hg h
    exact w.mono h2
  | succ m ih =>
    intro p c gap r h1 h2 w hg h
    rw [rdAll] at h ⊢
    by_cases c0 : bs.length ≤ p
    · rw [if_pos c0]
      exact w.mono h2
    · rw [if_neg c0] at h ⊢
      have l1 := ln_end (bs := bs) p (by omega)
      dsimp only at h ⊢
      generalize sc (fun j => tx bs j == 10) p (bs.length - p) = to at l1 h ⊢
      have l2 := rdLine_w (mb := mb) (gap := gap) l1.2.1 l1.2.2 (w.mono h1) l1.1 hg
      cases hq : rdLine bs mb p to gap r with
      | mk r2 o =>
        rw [hq] at h l2
        cases o with
        | none =>
          dsimp only at h l2 ⊢
          obtain ⟨l3, l4⟩ := l2 rfl
          exact ih (to + 1) to _ r2 (by omega) l1.2.1 l3 l4 h
        | some q => cases h
theorem rdC_w {mb : Bool} (h : (rdC bs mb).2 = none) : wR (tx bs) bs.length (rdC bs mb).1 := by
  unfold rdC at h ⊢
  dsimp only at h ⊢
  split at h
  · cases h
  · rename_i c0
    rw [if_neg c0]
    refine rdAll_w 700 0 0 true ([], []) (Nat.le_refl _) (Nat.zero_le _) ⟨by decide, by decide, fun b hb => (by cases hb), fun p hp => (by cases hp), Nat.le_refl _, by decide, by decide, fun i hi => (by cases hi), Nat.le_refl _⟩ (fun _ => rfl) h
/-- codes of faults -/
theorem pcs_c {f : Nat → Nat} : ∀ m i gl (ps : List Pc) q, (pcs f to m i gl ps).2 = some q → 1 ≤ q.1 ∧ q.1 ≤ 5 := by
  intro m
  induction m with
  | zero => intro i gl ps q h; cases h
  | succ m ih =>
    intro i gl ps q h
    rw [pcs] at h
    split at h
    · cases h
    · split at h
      · cases h
        exact ⟨Nat.le_of_ble_eq_true rfl, Nat.le_of_ble_eq_true rfl⟩
      · split at h
        · cases h
          exact ⟨Nat.le_of_ble_eq_true rfl, Nat.le_of_ble_eq_true rfl⟩
        · exact ih _ _ _ _ h
theorem rdPcs_c {f : Nat → Nat} {i : Nat} {q : Nat × Nat} (h : (rdPcs f to i r).2 = some q) : 1 ≤ q.1 ∧ q.1 ≤ 5 := by
  rw [rdPcs_eq] at h
  exact pcs_c 700 (skp f i to) false r.2 q h
theorem rdItem_c {f : Nat → Nat} {fi bl : Nat} {gap : Bool} {q : Nat × Nat} (h : (rdItem f fi to bl gap r).2 = some q) : 1 ≤ q.1 ∧ q.1 ≤ 5 := by
  unfold rdItem at h
  dsimp only at h
  generalize (decide (0 < r.1.length) && !gap && decide (bSo (lastB r) = 1)) = ah at h
  generalize (if ah = true then bDe (lastB r) + 1 else 0) = most at h
  split at h
  · cases h
    exact ⟨Nat.le_of_ble_eq_true rfl, Nat.le_of_ble_eq_true rfl⟩
  · split at h
    · cases h
      exact ⟨Nat.le_of_ble_eq_true rfl, Nat.le_of_ble_eq_true rfl⟩
    · split at h
      · cases h
        exact ⟨Nat.le_of_ble_eq_true rfl, Nat.le_of_ble_eq_true rfl⟩
      · exact rdPcs_c h
theorem rdText_c {f : Nat → Nat} {fi n : Nat} {mb gap : Bool} {q : Nat × Nat} (h : (rdText f n mb fi to gap r).2 = some q) : 1 ≤ q.1 ∧ q.1 ≤ 5 := by
  unfold rdText at h
  split at h
  · split at h
    · cases h
      exact ⟨Nat.le_of_ble_eq_true rfl, Nat.le_of_ble_eq_true rfl⟩
    split at h
    · split at h
      · cases h
        exact ⟨Nat.le_of_ble_eq_true rfl, Nat.le_of_ble_eq_true rfl⟩
      split at h
      · cases h
        exact ⟨Nat.le_of_ble_eq_true rfl, Nat.le_of_ble_eq_true rfl⟩
      · cases h
    split at h
    · cases h
      exact ⟨Nat.le_of_ble_eq_true rfl, Nat.le_of_ble_eq_true rfl⟩
    split at h
    · cases h
      exact ⟨Nat.le_of_ble_eq_true rfl, Nat.le_of_ble_eq_true rfl⟩
    · exact rdPcs_c h
  · split at h
    · cases h
      exact ⟨Nat.le_of_ble_eq_true rfl, Nat.le_of_ble_eq_true rfl⟩
    · exact rdPcs_c h
theorem rdTag_c {fi : Nat} {q : Nat × Nat} (h : (rdTag bs fi to r).2 = some q) : 1 ≤ q.1 ∧ q.1 ≤ 5 := by
  unfold rdTag at h
  dsimp only at h
  generalize sc (fun j => tx bs j == 32) (fi + 1) (to - (fi + 1)) = e at h
  generalize tgSo (tx bs) (fi + 1) e = so at h
  generalize skp (tx bs) e to = p at h
  generalize sc (fun j => tx bs j == 32) p (to - p) = z at h
  generalize (if so = 2 then nmOK (tx bs) p (z - p) else if so = 6 then nuOK (tx bs) p (z - p) else rfOK (tx bs) p (z - p)) = ok at h
  split at h
  · cases h
    exact ⟨Nat.le_of_ble_eq_true rfl, Nat.le_of_ble_eq_true rfl⟩
  split at h
  · cases h
    exact ⟨Nat.le_of_ble_eq_true rfl, Nat.le_of_ble_eq_true rfl⟩
  split at h
  · cases h
    exact ⟨Nat.le_of_ble_eq_true rfl, Nat.le_of_ble_eq_true rfl⟩
  split at h
  · exact rdPcs_c h
  split at h
  · cases h
    exact ⟨Nat.le_of_ble_eq_true rfl, Nat.le_of_ble_eq_true rfl⟩
  split at h
  · cases h
    exact ⟨Nat.le_of_ble_eq_true rfl, Nat.le_of_ble_eq_true rfl⟩
  split at h
  · dsimp only at h
    split at h
    · cases h
      exact ⟨Nat.le_of_ble_eq_true rfl, Nat.le_of_ble_eq_true rfl⟩
    · cases h
  · exact rdPcs_c h
theorem rdLine_c {mb gap : Bool} {p : Nat} {q : Nat × Nat} (h : (rdLine bs mb p to gap r).2 = some q) : 1 ≤ q.1 ∧ q.1 ≤ 5 := by
  unfold rdLine at h
  dsimp only at h
  split at h
  · cases h
  split at h
  · exact rdTag_c h
  split at h
  · exact rdItem_c h
  · exact rdText_c h
theorem rdAll_c {mb : Bool} : ∀ m p gap (r : Rd) q, (rdAll bs mb m p gap r).2 = some q → 1 ≤ q.1 ∧ q.1 ≤ 5 := by
  intro m
  induction m with
  | zero => intro p gap r q h; cases h
  | succ m ih =>
    intro p gap r q h
    rw [rdAll] at h
    split at h
    · cases h
    · dsimp only at h
      split at h
      · exact ih _ _ _ _ h
      · rename_i r2 q2 hq
        cases h
        exact rdLine_c (q := q) (by rw [hq])
theorem rdC_c {mb : Bool} {q : Nat × Nat} (h : (rdC bs mb).2 = some q) : 1 ≤ q.1 ∧ q.1 ≤ 5 := by
  unfold rdC at h
  dsimp only at h
  split at h
  · cases h
    exact ⟨Nat.le_of_ble_eq_true rfl, Nat.le_of_ble_eq_true rfl⟩
  · exact rdAll_c 700 0 true ([], []) q h
end PSPL
