section PC44
variable {C C' C0 : xC} {σ : St} {g : Gh} {es : List En} {l : List (Nat × Nat)}
abbrev nQ : Nat → Prop := fun a => a ≠ 15 ∧ a ≠ 16 ∧ a ≠ 17
/-- a note is added -/
theorem g41_s (T : cNt C l) (h : l.length < 216) (a b : Nat) : ∃ C', g41 15 (nI a) (nI b) C = some C' ∧ cNt C' (l ++ [(a, b)]) ∧ eqO nQ C C' ∧ sm C C' := by
  obtain ⟨t1, t2, t3, t4, t5, t6⟩ := T
  unfold g41 gj41_54
  rw [t1]
  simp only [bS]
  rw [t3, t5, if_neg (show ¬ Int32.ofNat 216 ≤ nI l.length from nI_ge (b := 216) h (by decide)), t2]
  simp only [bS]
  rw [t4, if_neg (show ¬ Int32.ofNat 216 ≤ nI l.length from nI_ge (b := 216) h (by decide)), cSt_n (n := 216) h t3 (by decide)]
  simp only [bS]
  rw [uI_r, t2]
  simp only [bS]
  rw [uI_n (by omega), t5, cSt_n (n := 216) h (by rw [uI_K]; exact t4) (by decide)]
  simp only [bS]
  rw [uI_n (by omega), uI_n (by omega), t5, nI_1]
  refine ⟨_, rfl, ⟨by simp only [uI_r]; exact t1, by simp only [uI_r]; exact t2, by simp only [uI_K]; exact t3, by simp only [uI_K]; exact t4, by rw [uI_e]; simp, fun i hi => ?_⟩, ((eqO.uI (fun h9 => h9.2.1 rfl)).tr (eqO.uI (fun h9 => h9.2.2 rfl))).tr (eqO.uI (fun h9 => h9.1 rfl)), rfl, rfl⟩
  have hi : i < l.length + 1 := by simpa using hi
  rw [gD_app hi]
  by_cases h9 : i = l.length
  · rw [if_pos h9, h9]
    exact ⟨by simp (disch := omega) only [uI_n, uI_e], by simp (disch := omega) only [uI_n, uI_e]⟩
  · rw [if_neg h9]
    exact ⟨by simp (disch := omega) only [uI_n]; exact (t6 i (by omega)).1, by simp (disch := omega) only [uI_n]; exact (t6 i (by omega)).2⟩
/-- a dead link -/
def dP (es : List En) (e : Nat) (t : List Nat) (p : Pc) : Bool := (pSo p == 2) && (lead es e (cut t (pNf p) (pNt p))).isNone
/-- dead links of a block -/
theorem g44_s {c k : Nat} {m : Cm} {e : Nat} {b : Bk} (T : cRd C c m.2) (S : cSh C c) (hc : ∀ i, i < 150 → nQ (c + i)) (w24 : m.2.1.length ≤ 24) (w120 : m.2.2.length ≤ 120) (wp : ∀ p ∈ m.2.2, pSo p ≤ 2) (hk : k < m.2.1.length) (hb : m.2.1.getD k bkD = b) (b1 : bSo b ≤ 7) (b4 : bFi b + bMa b ≤ m.2.2.length) {ea : Nat → Nat} (h9 : cR C (c + 4 + k) 9 = (if bSo b = 4 ∨ bSo b = 5 then (lead es e (cut m.1 (bNf b) (bNt b))).map ea else none)) (h7 : ∀ i, i < bMa b → pSo (m.2.2.getD (bFi b + i) pcD) = 2 → cR C (c + 30 + (bFi b + i)) 7 = (lead es e (cut m.1 (pNf (m.2.2.getD (bFi b + i) pcD)) (pNt (m.2.2.getD (bFi b + i) pcD)))).map ea) (Nn : cNt C l) (hl : l.length + ((if (bSo b = 4 ∨ bSo b = 5) ∧ (lead es e (cut m.1 (bNf b) (bNt b))).isNone = true then [(2, bPl b)] else ([] : List (Nat × Nat))) ++ (((m.2.2.drop (bFi b)).take (bMa b)).filter (dP es e m.1)).map fun p => (2, pPl p)).length ≤ 216) : ∃ C', g44 15 (some c) (some (c + 4 + k)) C = some C' ∧ cNt C' (l ++ ((if (bSo b = 4 ∨ bSo b = 5) ∧ (lead es e (cut m.1 (bNf b) (bNt b))).isNone = true then [(2, bPl b)] else []) ++ (((m.2.2.drop (bFi b)).take (bMa b)).filter (dP es e m.1)).map fun p => (2, pPl p))) ∧ eqO nQ C C' ∧ sm C C' := by
  have key : ∀ q n j (D : xC) (l : List (Nat × Nat)), j + q = bMa b → q < n → eqO nQ C D → cNt D l → l.length + ((((m.2.2.drop (bFi b + j)).take q).filter (dP es e m.1)).map fun p => (2, pPl p)).length ≤ 216 → ∃ C', gl44_25 n 15 (some c) (some (c + 4 + k)) (nI j) D = some C' ∧ cNt C' (l ++ (((m.2.2.drop (bFi b + j)).take q).filter (dP es e m.1)).map fun p => (2, pPl p)) ∧ eqO nQ C C' ∧ sm D C' := by
    intro q
    induction q with
    | zero =>
      intro n j D l hj hn ED hN hl
      obtain ⟨n, rfl⟩ : ∃ x, n = x + 1 := ⟨n - 1, by omega⟩
      have bk := ((T.kp ED (by omega) w120 hc).1.2 k hk)
      rw [hb] at bk
      rw [gl44_25]
      dsimp only
      simp only [bS]
      rw [bk.2.2.2.2.2.1, if_pos (nI_le (by omega) (by omega))]
      exact ⟨D, rfl, by simpa using hN, ED, sm.rfl'⟩
    | succ q ih =>
      intro n j D l hj hn ED hN hl
      obtain ⟨n, rfl⟩ : ∃ x, n = x + 1 := ⟨n - 1, by omega⟩
      have TD := T.kp ED (by omega) w120 hc
      have SD := S.kp ED hc
      have bk := TD.1.2 k hk
      rw [hb] at bk
      have pk := TD.2.2 (bFi b + j) (by omega)
      have hw := wp _ (gD_mem (l := m.2.2) (i := bFi b + j) (d := pcD) (by omega))
      have e1 : (m.2.2.drop (bFi b + j)).take (q + 1) = m.2.2.getD (bFi b + j) pcD :: (m.2.2.drop (bFi b + (j + 1))).take q := by
        rw [List.drop_eq_getElem_cons (by omega), List.take_succ_cons, List.getD_eq_getElem?_getD, List.getElem?_eq_getElem (by omega)]
        rfl
      have hq7 := h7 j (by omega)
      rw [e1] at hl ⊢
      generalize m.2.2.getD (bFi b + j) pcD = p at pk hw hl hq7 ⊢
      rw [gl44_25]
      dsimp only
      simp only [bS]
      rw [bk.2.2.2.2.2.1, if_neg (nI_ge (by omega) (by omega)), bk.2.2.2.2.1, nI_add, g6_s TD SD (by omega)]
      simp only [bS]
      rw [if_neg (show ¬ nI (bFi b + j) < 0 from nI_pos (by omega)), nI_clamp (by omega), if_pos (show bFi b + j < m.2.2.length by omega), if_neg (show ¬ some (c + 30 + (bFi b + j)) = none by simp)]
      simp only [bS]
      rw [pk.1]
      unfold gj44_77
      rw [nI_1]
      by_cases h2 : pSo p = 2
      · have hcell := (ED (c + 30 + (bFi b + j)) (by have := hc (30 + (bFi b + j)) (by omega); rwa [← Nat.add_assoc] at this)).2.1 7
        rw [if_pos (by rw [h2]; rfl), hcell, hq7 h2]
        cases hL : lead es e (cut m.1 (pNf p) (pNt p)) with
        | none =>
          have eP : dP es e m.1 p = true := by unfold dP; rw [hL, h2]; rfl
          rw [List.filter_cons_of_pos eP, List.map_cons] at hl ⊢
          rw [if_pos (show Option.map ea none = none from rfl), pk.2.1]
          rw [List.length_cons] at hl
          obtain ⟨V, v1, v2, v3, v4⟩ := g41_s hN (by omega) 2 (pPl p)
          rw [show (2 : Int32) = nI 2 from rfl, v1]
          simp only [bS]
          obtain ⟨W, w1, w2, w3, w4⟩ := ih n (j + 1) V _ (by omega) (by omega) (ED.tr v3) v2 (by rw [List.length_append, List.length_singleton]; omega)
          refine ⟨W, w1, ?_, w3, v4.tr w4⟩
          rw [List.append_assoc, List.singleton_append] at w2
          exact w2
        | some t =>
          have eP : ¬ dP es e m.1 p = true := by unfold dP; rw [hL]; simp
          rw [List.filter_cons_of_neg eP] at hl ⊢
          rw [if_neg (show ¬ Option.map ea (some t) = none by simp)]
          exact ih n (j + 1) D l (by omega) (by omega) ED hN hl
      · have eP : ¬ dP es e m.1 p = true := by unfold dP; simp [h2]
        rw [List.filter_cons_of_neg eP] at hl ⊢
        rw [if_neg (show ¬ _ = (2 : Int32) from nI_ne h2 (by omega) (by decide))]
        exact ih n (j + 1) D l (by omega) (by omega) ED hN hl
  have bk := T.1.2 k hk
  rw [hb] at bk
  unfold g44 gj44_23
  simp only [bS]
  rw [g1_s bk.2.1 (by omega)]
  simp only [bS, bZ_0]
  rw [h9]
  rw [List.length_append] at hl
  by_cases hs : bSo b = 4 ∨ bSo b = 5
  · rw [decide_eq_true hs, if_neg (show ¬ true = false by decide), if_pos hs]
    cases hL : lead es e (cut m.1 (bNf b) (bNt b)) with
    | none =>
      rw [hL, if_pos (show (bSo b = 4 ∨ bSo b = 5) ∧ Option.isNone (none : Option Nat) = true from ⟨hs, rfl⟩)] at hl
      rw [if_pos (show Option.map ea none = none from rfl), if_pos (show (bSo b = 4 ∨ bSo b = 5) ∧ Option.isNone (none : Option Nat) = true from ⟨hs, rfl⟩), bk.2.2.1]
      rw [List.length_singleton] at hl
      obtain ⟨V, v1, v2, v3, v4⟩ := g41_s Nn (by omega) 2 (bPl b)
      rw [show (2 : Int32) = nI 2 from rfl, v1]
      simp only [bS]
      obtain ⟨W, w1, w2, w3, w4⟩ := key (bMa b) xFuel 0 V _ (by omega) (pFuel _ (by omega)) v3 v2 (by rw [List.length_append, List.length_singleton]; rw [Nat.add_zero (bFi b)]; omega)
      refine ⟨W, w1, ?_, w3, v4.tr w4⟩
      rw [List.append_assoc] at w2
      exact w2
    | some t =>
      rw [hL, if_neg (show ¬ ((bSo b = 4 ∨ bSo b = 5) ∧ Option.isNone (some t) = true) from fun h9 => by cases h9.2)] at hl
      rw [if_neg (show ¬ Option.map ea (some t) = none by simp), if_neg (show ¬ ((bSo b = 4 ∨ bSo b = 5) ∧ Option.isNone (some t) = true) from fun h9 => by cases h9.2), List.nil_append]
      exact key (bMa b) xFuel 0 C l (by omega) (pFuel _ (by omega)) eqO.rfl' Nn (by rw [Nat.add_zero (bFi b)]; simpa using hl)
  · rw [decide_eq_false hs, if_pos (Eq.refl false), if_neg (show ¬ ((bSo b = 4 ∨ bSo b = 5) ∧ _) from fun h9 => hs h9.1), List.nil_append]
    rw [if_neg (show ¬ ((bSo b = 4 ∨ bSo b = 5) ∧ _) from fun h9 => hs h9.1)] at hl
    exact key (bMa b) xFuel 0 C l (by omega) (pFuel _ (by omega)) eqO.rfl' Nn (by rw [Nat.add_zero (bFi b)]; simpa using hl)
end PC44
