section PCRA
variable {C C' C1 C2 : xC} {d : Nat} {bs : List Nat} {r : Rd} {F : Option (Nat × Nat)} {to : Nat}
abbrev oddB (bs : List Nat) : Nat → Bool := fun j => !(tx bs j == 10) && !(decide (32 ≤ tx bs j) && decide (tx bs j ≤ 126))
/-- odd bytes -/
theorem g63_s (R : rS C d bs) (hF : fS C none) : ∃ C', g63 5 C = some C' ∧ rdE d C C' ∧ (∀ k, cR C' 5 k = cR C 5 k) ∧ eqO (fun a => a ≠ 5) C C' ∧ fS C' (if sc (oddB bs) 0 bs.length < bs.length then some (1, sc (oddB bs) 0 bs.length) else none) := by
  obtain ⟨⟨a1, a2⟩, b, t, hd⟩ := id R
  have t5 := t.2.2.2.2.1
  have key : ∀ k n i, i + k = bs.length → k < n → ∃ C', gl63_2 n 5 (nI i) C = some C' ∧ rdE d C C' ∧ (∀ k, cR C' 5 k = cR C 5 k) ∧ eqO (fun a => a ≠ 5) C C' ∧ fS C' (if sc (oddB bs) i k < bs.length then some (1, sc (oddB bs) i k) else none) := by
    intro k
    induction k with
    | zero =>
      intro n i hi hn
      obtain ⟨n, rfl⟩ : ∃ m, n = m + 1 := ⟨n - 1, by omega⟩
      rw [gl63_2, sc]
      dsimp only
      rw [a2]
      simp only [bS]
      rw [t.2.1, if_pos (nI_le (by omega) (by omega)), if_neg (by omega)]
      exact ⟨C, rfl, rdE.rfl', fun _ => rfl, eqO.rfl', hF⟩
    | succ k ih =>
      intro n i hi hn
      obtain ⟨n, rfl⟩ : ∃ m, n = m + 1 := ⟨n - 1, by omega⟩
      rw [gl63_2]
      dsimp only
      rw [a2]
      simp only [bS]
      rw [t.2.1, if_neg (nI_ge (by omega) (by omega)), if_pos (show cI C 5 5 = 0 from hF), t.s (by omega)]
      simp only [bS, e_10]
      by_cases h10 : tx bs i = 10
      · rw [if_pos h10, sc_f (by simp [oddB, h10])]
        unfold gj63_57
        rw [nI_1]
        exact ih n (i + 1) (by omega) (by omega)
      · rw [if_neg h10, a2]
        simp only [bS]
        rw [t.s (by omega)]
        simp only [bS]
        rw [g135_s]
        simp only [bS, bZ_0]
        have e4 : decide ((32 : Int32) ≤ bI (tx bs i) ∧ bI (tx bs i) ≤ 126) = (decide (32 ≤ tx bs i) && decide (tx bs i ≤ 126)) := by
          have := bI_in (c := tx bs i) (lo := 32) (hi := 126) (by decide) (by decide)
          rw [Bool.eq_iff_iff, decide_eq_true_eq, Bool.and_eq_true, decide_eq_true_eq, decide_eq_true_eq]
          exact this
        rw [e4]
        have e5 : (tx bs i == 10) = false := by simpa using h10
        cases hb : decide (32 ≤ tx bs i) && decide (tx bs i ≤ 126) with
        | true =>
          rw [if_neg (show ¬ true = false by decide), sc_f (by simp only [oddB]; rw [e5, hb]; rfl)]
          unfold gj63_57
          rw [nI_1]
          exact ih n (i + 1) (by omega) (by omega)
        | false =>
          rw [if_pos (Eq.refl false), sc_t (by simp only [oddB]; rw [e5, hb]; rfl), if_pos (show i < bs.length by omega)]
          obtain ⟨U, u1, u2, u3, u4, u5⟩ := g62_s hF (c := 1) (p := i) (by decide) (by omega)
          rw [show g62 5 (nI i) 1 C = g62 5 (nI i) (nI 1) C from rfl, u1]
          simp only [bS]
          unfold gj63_57
          obtain ⟨n, rfl⟩ : ∃ m, n = m + 1 := ⟨n - 1, by omega⟩
          rw [nI_1, gl63_2]
          dsimp only
          rw [u4, a2]
          simp only [bS]
          have R2 := R.kp (u5 d)
          have u2 : fS U (some (1, i)) := u2
          rw [R2.2.2.1.2.1, u2.1]
          refine ⟨U, ?_, u5 d, u4, u3, u2⟩
          unfold gj63_63
          by_cases h2 : bs.length ≤ i + 1
          · rw [if_pos (nI_le h2 (by omega))]
          · rw [if_neg (nI_ge (by omega) (by omega)), if_neg (show ¬ nI 1 = 0 by decide)]
  exact key bs.length xFuel 0 (by omega) (pFuel _ (by omega))
/-- reading -/
theorem g61_s (S : cSh C d) (t : TX C (d + 1) (d + 2) 600 bs) (hd : 17 < d) (T : cRd C d ([], [])) (N : nS C) {a : Nat} {mb : Bool} (O : oS C d a mb) : ∃ C', g61 5 (some d) C = some C' ∧ eqO (fun a => a ≠ 5 ∧ a ≠ 6 ∧ a ≠ 7 ∧ (a < d ∨ d + 150 ≤ a ∨ a = d + 1 ∨ a = d + 2 ∨ a = d + 3 ∨ a = d + 29)) C C' ∧ (∀ k, cR C' d k = cR C d k) ∧ sm C C' ∧ nS C' ∧ match rdC bs mb with
    | (r2, none) => fS C' none ∧ cRd C' d r2
    | (_, some q) => fS C' (some q) := by
  have t5 := t.2.2.2.2.1
  unfold g61
  simp only [bS]
  rw [uR_n (by omega), S.1]
  -- the reader is made ready
  have E0 : eqO (fun a => a ≠ 5) C (uI (uI (uI (uR (uR (uR C 5 1 (some d)) 5 2 (some (d + 1))) 5 3 none) 5 4 1) 5 5 0) 5 6 0) := (((((eqO.uR (fun h9 => h9 rfl)).tr (eqO.uR (fun h9 => h9 rfl))).tr (eqO.uR (fun h9 => h9 rfl))).tr (eqO.uI (fun h9 => h9 rfl))).tr (eqO.uI (fun h9 => h9 rfl))).tr (eqO.uI (fun h9 => h9 rfl))
  have S0 : sm C (uI (uI (uI (uR (uR (uR C 5 1 (some d)) 5 2 (some (d + 1))) 5 3 none) 5 4 1) 5 5 0) 5 6 0) := ⟨rfl, rfl⟩
  have k1 : cR (uI (uI (uI (uR (uR (uR C 5 1 (some d)) 5 2 (some (d + 1))) 5 3 none) 5 4 1) 5 5 0) 5 6 0) 5 1 = some d := by simp (disch := omega) only [uI_r, uR_n, uR_e]
  have k2 : cR (uI (uI (uI (uR (uR (uR C 5 1 (some d)) 5 2 (some (d + 1))) 5 3 none) 5 4 1) 5 5 0) 5 6 0) 5 2 = some (d + 1) := by simp (disch := omega) only [uI_r, uR_n, uR_e]
  have k3 : cR (uI (uI (uI (uR (uR (uR C 5 1 (some d)) 5 2 (some (d + 1))) 5 3 none) 5 4 1) 5 5 0) 5 6 0) 5 3 = none := by simp (disch := omega) only [uI_r, uR_e]
  have k0 : cR (uI (uI (uI (uR (uR (uR C 5 1 (some d)) 5 2 (some (d + 1))) 5 3 none) 5 4 1) 5 5 0) 5 6 0) 5 0 = some 6 := by simp (disch := omega) only [uI_r, uR_n]; exact N.1
  have k4 : cI (uI (uI (uI (uR (uR (uR C 5 1 (some d)) 5 2 (some (d + 1))) 5 3 none) 5 4 1) 5 5 0) 5 6 0) 5 4 = 1 := by simp (disch := omega) only [uI_n, uI_e]
  have k5 : cI (uI (uI (uI (uR (uR (uR C 5 1 (some d)) 5 2 (some (d + 1))) 5 3 none) 5 4 1) 5 5 0) 5 6 0) 5 5 = 0 := by simp (disch := omega) only [uI_n, uI_e]
  generalize uI (uI (uI (uR (uR (uR C 5 1 (some d)) 5 2 (some (d + 1))) 5 3 none) 5 4 1) 5 5 0) 5 6 0 = D at E0 S0 k0 k1 k2 k3 k4 k5 ⊢
  have R : rS D d bs := ⟨⟨k1, k2⟩, S.kp E0 (fun i hi => by omega), t.kp E0 (by omega) (by omega), hd⟩
  have T0 : cRd D d ([], []) := T.kp E0 (Nat.zero_le _) (Nat.zero_le _) (fun i hi => by omega)
  have N0 : nS D := by
    obtain ⟨_, nm, n2⟩ := N
    exact ⟨k0, nm, n2.kp E0 (by decide) (by decide)⟩
  have O0 : oS D d a mb := ⟨by rw [(E0 d (by omega)).2.1]; exact O.1, O.2.1, by rw [(E0 a O.2.1.1).2.1]; exact O.2.2⟩
  have F0 : fS D none := k5
  obtain ⟨V, v1, v2, v3, v4, v5⟩ := g63_s R F0
  rw [v1]
  simp only [bS]
  have RV := R.kp v2
  have EV : rdV d D V := v2.w.v
  have E5 : ∀ X : xC, rdV d V X → eqO (fun a => a ≠ 5 ∧ a ≠ 6 ∧ a ≠ 7 ∧ (a < d ∨ d + 150 ≤ a ∨ a = d + 1 ∨ a = d + 2 ∨ a = d + 3 ∨ a = d + 29)) C X ∧ (∀ k, cR X d k = cR C d k) ∧ sm C X := fun X hX => ⟨((E0.mono fun a ha => ha.1).tr EV.1).tr hX.1, fun k => ((hX.2.1 k).trans (EV.2.1 k)).trans ((E0 d (by omega)).2.1 k), (S0.tr EV.2.2.2).tr hX.2.2.2⟩
  have NV := N0.kp hd v2
  unfold rdC
  dsimp only
  show ∃ C', gl61_41 xFuel 5 (some d) 0 0 V = some C' ∧ _
  by_cases h : sc (oddB bs) 0 bs.length < bs.length
  · rw [if_pos h] at v5
    rw [if_pos (show sc (fun j => !(tx bs j == 10) && !(decide (32 ≤ tx bs j) && decide (tx bs j ≤ 126))) 0 bs.length < bs.length from h)]
    have e : gl61_41 xFuel 5 (some d) 0 0 V = some V := by
      rw [show xFuel = (xFuel - 1) + 1 by decide, gl61_41]
      dsimp only
      rw [if_neg (show ¬ (600 : Int32) ≤ 0 by decide), RV.1.2]
      simp only [bS]
      rw [RV.2.2.1.2.1, show (0 : Int32) = nI 0 from rfl, if_neg (nI_ge (by omega) (by omega)), v5.1, if_neg (show ¬ nI (1, sc (oddB bs) 0 bs.length).1 = nI 0 from fun h9 => by cases (nI_eq (a := 1) (b := 0) (by decide) (by decide)).mp h9)]
      rfl
    rw [e]
    obtain ⟨x1, x2, x3⟩ := E5 V rdV.rfl'
    exact ⟨V, rfl, x1, x2, x3, NV, v5⟩
  · rw [if_neg h] at v5
    rw [if_neg (show ¬ sc (fun j => !(tx bs j == 10) && !(decide (32 ≤ tx bs j) && decide (tx bs j ≤ 126))) 0 bs.length < bs.length from h)]
    obtain ⟨W, w1, w2, w3, w4⟩ := g61_l (mb := mb) (a := a) (some d) 700 xFuel 0 0 true 0 ([], []) V (by omega) (by decide) ⟨RV, T0.kp v4 (Nat.zero_le _) (Nat.zero_le _) (fun i hi => by omega), v5, NV, by rw [v3, k3]; rfl, by rw [v2.2.2.2.1, k4]; rfl, O0.kp EV⟩ (Nat.le_refl _) (Nat.zero_le _) ⟨by decide, by decide, fun b hb => (by cases hb), fun p hp => (by cases hp), Nat.le_refl _, by decide, by decide, fun i hi => (by cases hi), Nat.le_refl _⟩ (fun _ => rfl) (by omega) (Nat.le_refl _)
    rw [show gl61_41 xFuel 5 (some d) 0 0 V = gl61_41 xFuel 5 (some d) (nI 0) (nI 0) V from rfl, w1]
    obtain ⟨x1, x2, x3⟩ := E5 W w2
    exact ⟨W, rfl, x1, x2, x3, w3, w4⟩
end PCRA
