section PMNS
variable {S : mS} {es : List En}
/-- the notes of one sort over the blocks -/
def nsP (es : List En) (e so : Nat) (b : Bk) : Bool := if so = 3 then (bSo b == 7) && (cnt es 40 (abv es e)).isNone else if so = 4 then (bSo b == 2) && !((ePs (gE es e)).any fun a => decide (a = cut (gC es e).1 (bNf b) (bNt b))) else (bSo b == 3) && !eGv (gE es e)
theorem g224_st (H : mEs S es) (w : wE es) {e i so : Nat} (he : e < es.length) (hi : i < (gC es e).2.1.length) (hso : so = 3 ∨ so = 4 ∨ so = 5) (k43 : Int32 → Int32 → Int32 → mS → Option (Int32 × mS)) (n : Nat) : gl224_52 k43 (n + 1) (nI e) (oI (abv es e)) (nI so) (nI i) S = gj224_170 k43 (gl224_52 k43 n) (nI e) (oI (abv es e)) (nI so) (nI i) (nI (24 * e + i)) (bZ (nsP es e so ((gC es e).2.1.getD i bkD))) S := by
  have w1 := w.1
  obtain ⟨e14, _, n1, _, n3, _⟩ := mEn_cm H w he
  obtain ⟨b1, b2⟩ := n3 i hi
  have b8 := b2.1
  have al : ∀ a, abv es e = some a → a < es.length := fun a ha => (abv_lt w he ha).1
  have ga := g160_o H w al
  have g6 := (H.2 e he).1.2.2.2
  have gp := fun h2 => g220_s H w he hi h2
  rw [gl224_52]
  dsimp only
  rw [ld_14 (by omega), e14]
  simp only [bS]
  rw [if_neg (nI_ge hi (by omega)), lt_24, pk_mul, nI_add, ld_16 (by omega), b1.1, ld_6 (by omega), g6]
  simp only [bS]
  unfold nsP
  generalize (gC es e).2.1.getD i bkD = b at b1 b8 gp ⊢
  rcases hso with h | h | h
  · subst h
    rw [if_pos (show nI 3 = 3 from rfl), if_pos (Eq.refl 3)]
    by_cases h7 : bSo b = 7
    · rw [if_pos (show nI (bSo b) = 7 by rw [h7]; rfl), show (bSo b == 7) = true from by simpa using h7, Bool.true_and]
      cases hu : abv es e with
      | none =>
        rw [if_pos oI_n]
        rfl
      | some u =>
        have hu2 := al u hu
        rw [hu] at ga
        rw [if_neg (show ¬ oI (some u) = -1 from nI_nm (by omega)), ga]
        simp only [bS]
        cases hc : cnt es 40 (some u) with
        | none =>
          rw [if_pos oI_n]
          rfl
        | some c =>
          have := (cnt_lt w 40 (some u) c (fun x hx => by cases hx; exact hu2) hc).1
          rw [if_neg (show ¬ oI (some c) = -1 from nI_nm (by omega))]
          rfl
    · rw [if_neg (show ¬ _ = (7 : Int32) from nI_ne h7 (by omega) (by decide)), show (bSo b == 7) = false from by simpa using h7, Bool.false_and]
      rfl
  · subst h
    rw [if_neg (show ¬ nI 4 = 3 by decide), if_pos (show nI 4 = 4 from rfl), if_neg (show ¬ 4 = 3 by decide), if_pos (Eq.refl 4)]
    by_cases h7 : bSo b = 2
    · rw [if_pos (show nI (bSo b) = 2 by rw [h7]; rfl), show (bSo b == 2) = true from by simpa using h7, Bool.true_and, gp h7]
      simp only [bS, bZ_0]
      cases ((ePs (gE es e)).any fun a => decide (a = cut (gC es e).1 (bNf b) (bNt b))) with
      | true =>
        rw [if_neg (show ¬ true = false by decide)]
        rfl
      | false =>
        rw [if_pos (Eq.refl false)]
        rfl
    · rw [if_neg (show ¬ _ = (2 : Int32) from nI_ne h7 (by omega) (by decide)), show (bSo b == 2) = false from by simpa using h7, Bool.false_and]
      rfl
  · subst h
    rw [if_neg (show ¬ nI 5 = 3 by decide), if_neg (show ¬ nI 5 = 4 by decide), if_neg (show ¬ 5 = 3 by decide), if_neg (show ¬ 5 = 4 by decide)]
    by_cases h7 : bSo b = 3
    · rw [if_pos (show nI (bSo b) = 3 by rw [h7]; rfl), show (bSo b == 3) = true from by simpa using h7, Bool.true_and]
      cases eGv (gE es e) with
      | true =>
        rw [if_neg bZt]
        rfl
      | false =>
        rw [if_pos bZf]
        rfl
    · rw [if_neg (show ¬ _ = (3 : Int32) from nI_ne h7 (by omega) (by decide)), show (bSo b == 3) = false from by simpa using h7, Bool.false_and]
      rfl
theorem g224_l (w : wE es) {e so : Nat} (he : e < es.length) (hso : so = 3 ∨ so = 4 ∨ so = 5) (k43 : Int32 → Int32 → Int32 → mS → Option (Int32 × mS)) (l : List (Nat × Nat)) (hl : l.length + 24 ≤ 200) : ∀ m n i (S : mS), i + m = (gC es e).2.1.length → m < n → mEs S es → mNt S (l ++ (((gC es e).2.1.take i).filter (nsP es e so)).map fun b => (so, bPl b)) → ∃ S', gl224_52 k43 n (nI e) (oI (abv es e)) (nI so) (nI i) S = k43 (nI e) (oI (abv es e)) (nI (so + 1)) S' ∧ mNt S' (l ++ ((gC es e).2.1.filter (nsP es e so)).map fun b => (so, bPl b)) ∧ ntD S S' := by
  have w1 := w.1
  intro m
  induction m with
  | zero =>
    intro n i S hi hn H M
    obtain ⟨n, rfl⟩ : ∃ m, n = m + 1 := ⟨n - 1, by omega⟩
    obtain ⟨e14, _, n1, _⟩ := mEn_cm H w he
    rw [gl224_52]
    dsimp only
    rw [ld_14 (by omega), e14]
    simp only [bS]
    rw [if_pos (nI_le (by omega) (by omega)), nI_1]
    rw [List.take_of_length_le (by omega)] at M
    exact ⟨S, rfl, M, df.rfl'⟩
  | succ m ih =>
    intro n i S hi hn H M
    obtain ⟨n, rfl⟩ : ∃ m, n = m + 1 := ⟨n - 1, by omega⟩
    obtain ⟨e14, _, n1, _, n3, _⟩ := mEn_cm H w he
    obtain ⟨b1, b2⟩ := n3 i (by omega)
    have ih2 := ih n (i + 1)
    rw [take_s bkD (by omega), List.filter_append, List.map_append, ← List.append_assoc] at ih2
    rw [g224_st H w he (by omega) hso]
    unfold gj224_170 gj224_189
    rw [ld_20 (by omega), b1.2.2.2.2.1]
    simp only [bS, nI_1]
    generalize (gC es e).2.1.getD i bkD = b at b1 b2 ih2 ⊢
    cases hp : nsP es e so b with
    | true =>
      rw [if_neg bZt]
      have hlen := List.length_filter_le (nsP es e so) ((gC es e).2.1.take i)
      rw [List.length_take] at hlen
      obtain ⟨T, t1, t2, t3⟩ := g219_s M (by rw [List.length_append, List.length_map]; omega) so (bPl b)
      rw [t1]
      simp only [bS]
      rw [show ([b].filter (nsP es e so)).map (fun b => (so, bPl b)) = [(so, bPl b)] by simp [hp]] at ih2
      obtain ⟨U, u1, u2, u3⟩ := ih2 T (by omega) (by omega) (mEs_nt t3 H w) t2
      exact ⟨U, u1, u2, t3.tr u3⟩
    | false =>
      rw [if_pos bZf]
      rw [show ([b].filter (nsP es e so)).map (fun b => (so, bPl b)) = [] by simp [hp], List.append_nil] at ih2
      exact ih2 S (by omega) (by omega) H M
/-- the parameters that are not told -/
def ntU (es : List En) (e k : Nat) : Bool := !told es (some ((ePs (gE es e)).getD k [])) 40 (some e)
def ntR (es : List En) (e : Nat) : List (Nat × Nat) := if eGv (gE es e) = true ∧ told es none 40 (some e) = false then [(7, 0)] else []
theorem g224_u (w : wE es) {e : Nat} (he : e < es.length) (x2 : Int32) (l : List (Nat × Nat)) (hl : l.length + 5 ≤ 200) : ∀ m n i (S : mS), i + m = (ePs (gE es e)).length → m < n → mEs S es → mNt S (l ++ ((List.range i).filter (ntU es e)).map fun k => (6, k)) → ∃ S', gl224_203 n (nI e) x2 (nI i) S = some (S'.1 73, S') ∧ mNt S' (l ++ (((List.range (ePs (gE es e)).length).filter (ntU es e)).map fun k => (6, k)) ++ ntR es e) ∧ ntD S S' := by
  have w1 := w.1
  have h4 := (w.2 e he).2.2.2.2.2.2.1
  have hlen : ∀ i, i ≤ 4 → (l ++ ((List.range i).filter (ntU es e)).map fun k => (6, k)).length < 200 := fun i hi => by
    have := List.length_filter_le (ntU es e) (List.range i)
    rw [List.length_append, List.length_map]
    rw [List.length_range] at this
    omega
  intro m
  induction m with
  | zero =>
    intro n i S hi hn H M
    obtain ⟨n, rfl⟩ : ∃ m, n = m + 1 := ⟨n - 1, by omega⟩
    have m9 := (H.2 e he).2.2.1.1
    have m6 := (H.2 e he).1.2.2.2
    have ei : i = (ePs (gE es e)).length := by omega
    rw [gl224_203]
    dsimp only
    rw [ld_9 (by omega), m9]
    simp only [bS]
    rw [if_pos (nI_le (by omega) (by omega)), ld_6 (by omega), m6, show (3 : Int32) = nI 3 from rfl, show (0 : Int32) = nI 0 from rfl, g223_s H w he none (Or.inl ⟨rfl, rfl⟩)]
    simp only [bS]
    rw [← ei]
    unfold ntR
    cases eGv (gE es e) with
    | false =>
      rw [if_pos (show bZ false = nI 0 from rfl), if_neg (by simp), List.append_nil]
      exact ⟨S, rfl, M, df.rfl'⟩
    | true =>
      rw [if_neg (show ¬ bZ true = nI 0 from bZt)]
      cases told es none 40 (some e) with
      | true =>
        rw [if_neg (show ¬ bZ true = nI 0 from bZt), if_neg (by simp), List.append_nil]
        exact ⟨S, rfl, M, df.rfl'⟩
      | false =>
        obtain ⟨T, t1, t2, t3⟩ := g219_s M (hlen i (by omega)) 7 0
        rw [if_pos (show bZ false = nI 0 from rfl), if_pos ⟨rfl, rfl⟩, show (7 : Int32) = nI 7 from rfl, t1]
        exact ⟨T, rfl, t2, t3⟩
  | succ m ih =>
    intro n i S hi hn H M
    obtain ⟨n, rfl⟩ : ∃ m, n = m + 1 := ⟨n - 1, by omega⟩
    have m9 := (H.2 e he).2.2.1.1
    have ih2 := ih n (i + 1)
    rw [List.range_succ, List.filter_append, List.map_append, ← List.append_assoc] at ih2
    rw [gl224_203]
    dsimp only
    rw [ld_9 (by omega), m9]
    simp only [bS]
    rw [if_neg (nI_ge (by omega) (by omega)), show (2 : Int32) = nI 2 from rfl, g223_s H w he (some ((ePs (gE es e)).getD i [])) (Or.inr ⟨rfl, by omega, rfl⟩)]
    simp only [bS, bZ_0, gj224_230, nI_1]
    cases hp : told es (some ((ePs (gE es e)).getD i [])) 40 (some e) with
    | true =>
      have e5 : ntU es e i = false := by unfold ntU; rw [hp]; rfl
      rw [if_neg (show ¬ true = false by decide)]
      rw [show ([i].filter (ntU es e)).map (fun k => (6, k)) = [] by simp [e5], List.append_nil] at ih2
      exact ih2 S (by omega) (by omega) H M
    | false =>
      have e5 : ntU es e i = true := by unfold ntU; rw [hp]; rfl
      obtain ⟨T, t1, t2, t3⟩ := g219_s M (hlen i (by omega)) 6 i
      rw [if_pos (Eq.refl false), show (6 : Int32) = nI 6 from rfl, t1]
      simp only [bS]
      rw [show ([i].filter (ntU es e)).map (fun k => (6, k)) = [(6, i)] by simp [e5]] at ih2
      obtain ⟨U, u1, u2, u3⟩ := ih2 T (by omega) (by omega) (mEs_nt t3 H w) t2
      exact ⟨U, u1, u2, t3.tr u3⟩
/-- the notes, in the order in which they are written -/
theorem nts_eq (e : Nat) : nts es e = ((((((if cnt es 40 (some e) = none then [(1, 0)] else []) ++ (gC es e).2.1.flatMap (dBk es e)) ++ ((gC es e).2.1.filter (nsP es e 3)).map fun b => (3, bPl b)) ++ ((gC es e).2.1.filter (nsP es e 4)).map fun b => (4, bPl b)) ++ ((gC es e).2.1.filter (nsP es e 5)).map fun b => (5, bPl b)) ++ ((List.range (ePs (gE es e)).length).filter (ntU es e)).map fun k => (6, k)) ++ ntR es e := rfl
theorem gC_bd (w : wE es) {e : Nat} (he : e < es.length) : (gC es e).2.1.length ≤ 24 ∧ bMas (gC es e).2.1 ≤ 120 ∧ (∀ b ∈ (gC es e).2.1, bPl b ≤ 600) ∧ (∀ p ∈ (gC es e).2.2, pPl p ≤ 600) ∧ ((gC es e).2.1.filter fun b => bSo b == 7).length ≤ 1 ∧ ((gC es e).2.1.filter fun b => bSo b == 3).length ≤ 1 := by
  unfold gC
  cases hc : eCm (gE es e) with
  | none => exact ⟨by decide, by decide, fun b hb => absurd hb (by simp), fun p hp => absurd hp (by simp), by decide, by decide⟩
  | some c =>
    have t := (w.2 e he).2.2.2.2.2.2.2.2 c hc
    obtain ⟨t1, v1, v2, v3, v4, v5, v6, v7, v8, v9⟩ := t
    have t2 := t1.1
    dsimp only [Option.getD_some]
    exact ⟨v1, by omega, fun b hb => by have := (v3 b hb).2.1; omega, fun p hp => by have := (v4 p hp).2.1; omega, v7, v6⟩
theorem flt_le {α : Type} {p q : α → Bool} (h : ∀ a, p a = true → q a = true) (l : List α) : (l.filter p).length ≤ (l.filter q).length := by
  induction l with
  | nil => exact Nat.le_refl _
  | cons a l ih =>
    rw [List.filter_cons, List.filter_cons]
    by_cases hp : p a = true
    · rw [if_pos hp, if_pos (h a hp)]
      simpa using ih
    · rw [if_neg hp]
      split
      · rw [List.length_cons]
        omega
      · exact ih
theorem nts_w (w : wE es) {e : Nat} (he : e < es.length) : wNt (nts es e) := by
  obtain ⟨c1, c2, c3, c4, c5, c6⟩ := gC_bd w he
  have h4 := (w.2 e he).2.2.2.2.2.2.1
  rw [nts_eq]
  have l1 : (if cnt es 40 (some e) = none then [(1, 0)] else ([] : List (Nat × Nat))).length ≤ 1 := by split <;> simp
  have l2 := flatMap_len (dBk_len es e) (gC es e).2.1
  have l3 := flt_le (p := nsP es e 3) (q := fun b => bSo b == 7) (fun b hb => by simp [nsP] at hb; simp [hb.1]) (gC es e).2.1
  have l4 := List.length_filter_le (nsP es e 4) (gC es e).2.1
  have l5 := flt_le (p := nsP es e 5) (q := fun b => bSo b == 3) (fun b hb => by simp [nsP] at hb; simp [hb.1]) (gC es e).2.1
  have l6 := List.length_filter_le (ntU es e) (List.range (ePs (gE es e)).length)
  rw [List.length_range] at l6
  have l7 : (ntR es e).length ≤ 1 := by unfold ntR; split <;> simp
  refine ⟨?_, fun q hq => ?_⟩
  · simp only [List.length_append, List.length_map]
    omega
  · simp only [List.mem_append, List.mem_map, List.mem_filter, List.mem_flatMap] at hq
    rcases hq with (((((hq | hq) | hq) | hq) | hq) | hq) | hq
    · split at hq
      · simp at hq; subst hq; exact ⟨by decide, by decide⟩
      · simp at hq
    · obtain ⟨b, hb, hq⟩ := hq
      unfold dBk at hq
      rw [List.mem_append] at hq
      rcases hq with hq | hq
      · split at hq
        · simp at hq; subst hq; exact ⟨Nat.le_of_ble_eq_true rfl, c3 b hb⟩
        · simp at hq
      · simp only [List.mem_map, List.mem_filter] at hq
        obtain ⟨p, ⟨hp, _⟩, rfl⟩ := hq
        exact ⟨Nat.le_of_ble_eq_true rfl, c4 p (List.mem_of_mem_drop (List.mem_of_mem_take hp))⟩
    · obtain ⟨b, ⟨hb, _⟩, rfl⟩ := hq
      exact ⟨Nat.le_of_ble_eq_true rfl, c3 b hb⟩
    · obtain ⟨b, ⟨hb, _⟩, rfl⟩ := hq
      exact ⟨Nat.le_of_ble_eq_true rfl, c3 b hb⟩
    · obtain ⟨b, ⟨hb, _⟩, rfl⟩ := hq
      exact ⟨Nat.le_of_ble_eq_true rfl, c3 b hb⟩
    · obtain ⟨k, ⟨hk, _⟩, rfl⟩ := hq
      rw [List.mem_range] at hk
      exact ⟨Nat.le_of_ble_eq_true rfl, by show k ≤ 600; omega⟩
    · unfold ntR at hq
      split at hq
      · simp at hq; subst hq; exact ⟨by decide, by decide⟩
      · simp at hq
/-- notes -/
theorem m_notes {σ : St} (M : MR S σ) (w : wSt σ) (a : Nat → Int32) : ∃ S', g224 (a 1) S = some ((stp σ 17 a).1, S') ∧ MR S' (stp σ 17 a).2 := by
  obtain ⟨T, H, h33, P, Nn⟩ := id M
  have w1 := w.2.1.1
  show ∃ S', g224 (a 1) S = some ((sNts σ (a 1)).1, S') ∧ MR S' (sNts σ (a 1)).2
  unfold g224 sNts
  rw [g148_s H w.2.1]
  simp only [bS]
  cases he : eIx σ.2.1 (a 1) with
  | none =>
    rw [if_pos (show bZ (Option.isSome none) = 0 from bZf)]
    exact ⟨S, rfl, M⟩
  | some e =>
    obtain ⟨hel, hex⟩ := eIx_lt he
    have wE1 := w.2.1
    rw [if_neg (show ¬ bZ (Option.isSome (some e)) = 0 from bZt), hex]
    have D0 : ntD S (sPut S 73 0) := df.put (by decide)
    have H0 := mEs_nt D0 H wE1
    have M0 : mNt (sPut S 73 0) [] := ⟨rfl, fun i hi => absurd hi (Nat.not_lt_zero _)⟩
    have ga := g160_o H0 wE1 (o := some e) (fun x hx => by cases hx; exact hel)
    rw [oI_s] at ga
    rw [ga]
    simp only [bS]
    obtain ⟨c1, c2, c3, c4, c5, c6⟩ := gC_bd wE1 hel
    have h4 := (wE1.2 e hel).2.2.2.2.2.2.1
    -- behind the first note
    have rest : ∀ (U : mS) (l : List (Nat × Nat)), l.length ≤ 1 → ntD S U → mEs U σ.2.1 → mNt U l → ∃ S', gj224_30 (nI e) U = some (S'.1 73, S') ∧ mNt S' ((((((l ++ (gC σ.2.1 e).2.1.flatMap (dBk σ.2.1 e)) ++ ((gC σ.2.1 e).2.1.filter (nsP σ.2.1 e 3)).map fun b => (3, bPl b)) ++ ((gC σ.2.1 e).2.1.filter (nsP σ.2.1 e 4)).map fun b => (4, bPl b)) ++ ((gC σ.2.1 e).2.1.filter (nsP σ.2.1 e 5)).map fun b => (5, bPl b)) ++ ((List.range (ePs (gE σ.2.1 e)).length).filter (ntU σ.2.1 e)).map fun k => (6, k)) ++ ntR σ.2.1 e) ∧ ntD S S' := by
      intro U l hl DU HU MU
      have l2 := flatMap_len (dBk_len σ.2.1 e) (gC σ.2.1 e).2.1
      have l3 := flt_le (p := nsP σ.2.1 e 3) (q := fun b => bSo b == 7) (fun b hb => by simp [nsP] at hb; simp [hb.1]) (gC σ.2.1 e).2.1
      have l4 := List.length_filter_le (nsP σ.2.1 e 4) (gC σ.2.1 e).2.1
      have l5 := flt_le (p := nsP σ.2.1 e 5) (q := fun b => bSo b == 3) (fun b hb => by simp [nsP] at hb; simp [hb.1]) (gC σ.2.1 e).2.1
      unfold gj224_30
      obtain ⟨V, v1, v2, v3⟩ := g222_s HU wE1 hel (by omega) MU
      have HV := mEs_nt v3 HU wE1
      rw [v1]
      simp only [bS]
      rw [g156_s HV wE1 hel]
      simp only [bS]
      obtain ⟨X3, a1, a2, a3⟩ := g224_l wE1 hel (so := 3) (Or.inl rfl) (gl224_43 999999) (l ++ (gC σ.2.1 e).2.1.flatMap (dBk σ.2.1 e)) (by simp only [List.length_append]; omega) (gC σ.2.1 e).2.1.length xFuel 0 V (by omega) (pFuel _ (by omega)) HV (by simpa using v2)
      have H3 := mEs_nt a3 HV wE1
      obtain ⟨X4, b1, b2, b3⟩ := g224_l wE1 hel (so := 4) (Or.inr (Or.inl rfl)) (gl224_43 999998) ((l ++ (gC σ.2.1 e).2.1.flatMap (dBk σ.2.1 e)) ++ ((gC σ.2.1 e).2.1.filter (nsP σ.2.1 e 3)).map fun b => (3, bPl b)) (by simp only [List.length_append, List.length_map]; omega) (gC σ.2.1 e).2.1.length xFuel 0 X3 (by omega) (pFuel _ (by omega)) H3 (by simpa using a2)
      have H4 := mEs_nt b3 H3 wE1
      obtain ⟨X5, d1, d2, d3⟩ := g224_l wE1 hel (so := 5) (Or.inr (Or.inr rfl)) (gl224_43 999997) (((l ++ (gC σ.2.1 e).2.1.flatMap (dBk σ.2.1 e)) ++ ((gC σ.2.1 e).2.1.filter (nsP σ.2.1 e 3)).map fun b => (3, bPl b)) ++ ((gC σ.2.1 e).2.1.filter (nsP σ.2.1 e 4)).map fun b => (4, bPl b)) (by simp only [List.length_append, List.length_map]; omega) (gC σ.2.1 e).2.1.length xFuel 0 X4 (by omega) (pFuel _ (by omega)) H4 (by simpa using b2)
      have H5 := mEs_nt d3 H4 wE1
      obtain ⟨X6, f1, f2, f3⟩ := g224_u wE1 hel (oI (abv σ.2.1 e)) ((((l ++ (gC σ.2.1 e).2.1.flatMap (dBk σ.2.1 e)) ++ ((gC σ.2.1 e).2.1.filter (nsP σ.2.1 e 3)).map fun b => (3, bPl b)) ++ ((gC σ.2.1 e).2.1.filter (nsP σ.2.1 e 4)).map fun b => (4, bPl b)) ++ ((gC σ.2.1 e).2.1.filter (nsP σ.2.1 e 5)).map fun b => (5, bPl b)) (by simp only [List.length_append, List.length_map]; omega) (ePs (gE σ.2.1 e)).length xFuel 0 X5 (by omega) (pFuel _ (by omega)) H5 (by simpa using d2)
      have s1 : ∀ n (x : Int32) (so : Nat) (Z : mS), so < 6 → gl224_43 (n + 1) (nI e) x (nI so) Z = gl224_52 (gl224_43 n) xFuel (nI e) x (nI so) (nI 0) Z := fun n x so Z hso => by
        rw [gl224_43]
        dsimp only
        rw [if_neg (show ¬ (6 : Int32) ≤ nI so from nI_ge (b := 6) hso (by decide))]
        rfl
      have s2 : ∀ n (x : Int32) (Z : mS), gl224_43 (n + 1) (nI e) x (nI 6) Z = gl224_203 xFuel (nI e) x (nI 0) Z := fun n x Z => by
        rw [gl224_43]
        dsimp only
        rw [if_pos (show (6 : Int32) ≤ nI 6 by decide)]
        rfl
      rw [show (3 : Int32) = nI 3 from rfl, show xFuel = 999999 + 1 from rfl, s1 999999 _ 3 _ (by decide), a1, show (999999 : Nat) = 999998 + 1 from rfl, s1 999998 _ 4 _ (by decide), b1, show (999998 : Nat) = 999997 + 1 from rfl, s1 999997 _ 5 _ (by decide), d1, show (999997 : Nat) = 999996 + 1 from rfl, s2 999996, f1]
      exact ⟨X6, rfl, f2, ((((DU.tr v3).tr a3).tr b3).tr d3).tr f3⟩
    have fin : ∀ (U : mS), ntD S U → mNt U (nts σ.2.1 e) → some (U.1 73, U) = some (nI (nts σ.2.1 e).length, U) ∧ MR U (σ.1, σ.2.1, σ.2.2.1, σ.2.2.2.1, nts σ.2.1 e) := fun U D N => ⟨by rw [N.1], mTp_df D (by decide) T, mEs_nt D H wE1, by rw [D.1 33 (by decide)]; exact h33, mPg_df D (by decide) P, N⟩
    cases hc : cnt σ.2.1 40 (some e) with
    | none =>
      rw [if_pos oI_n]
      obtain ⟨U, u1, u2, u3⟩ := g219_s M0 (by decide) 1 0
      rw [show (1 : Int32) = nI 1 from rfl, show (0 : Int32) = nI 0 from rfl] at *
      rw [u1]
      simp only [bS]
      obtain ⟨V, v1, v2, v3⟩ := rest U [(1, 0)] (by decide) (D0.tr u3) (mEs_nt u3 H0 wE1) u2
      rw [v1]
      have e9 : nts σ.2.1 e = _ := nts_eq e
      rw [hc, if_pos (Eq.refl none)] at e9
      have := fin V v3 (by rw [e9]; exact v2)
      exact ⟨V, this.1, this.2⟩
    | some c =>
      have := (cnt_lt wE1 40 (some e) c (fun x hx => by cases hx; exact hel) hc).1
      rw [if_neg (show ¬ oI (some c) = -1 from nI_nm (by omega))]
      obtain ⟨V, v1, v2, v3⟩ := rest _ [] (by decide) D0 H0 M0
      rw [v1]
      have e9 : nts σ.2.1 e = _ := nts_eq e
      rw [hc, if_neg (by simp)] at e9
      have := fin V v3 (by rw [e9]; exact v2)
      exact ⟨V, this.1, this.2⟩
end PMNS
