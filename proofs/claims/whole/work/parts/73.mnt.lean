section PMNT
variable {S : mS} {es : List En}
theorem g219_s {l : List (Nat × Nat)} (M : mNt S l) (hl : l.length < 200) (a b : Nat) : ∃ S', g219 (nI a) (nI b) S = some S' ∧ mNt S' (l ++ [(a, b)]) ∧ df [73] [71, 72] S S' := by
  obtain ⟨m1, m2⟩ := M
  unfold g219
  rw [m1, st_71 hl]
  simp only [bS]
  rw [show (sSet S 71 l.length (nI a)).1 73 = nI l.length from m1, st_72 hl]
  simp only [bS]
  refine ⟨_, rfl, ⟨?_, fun i hi => ?_⟩, ((df.set (by decide)).tr (df.set (by decide))).tr (df.put (by decide))⟩
  · rw [sP_eq, show (sSet (sSet S 71 l.length (nI a)) 72 l.length (nI b)).1 73 = nI l.length from m1, nI_1]
    simp
  · simp only [List.length_append, List.length_singleton] at hi
    simp only [sP_2]
    by_cases h : i = l.length
    · subst h
      rw [sS_ne (by omega), sS_eq, sS_eq]
      simp [List.getD_eq_getElem?_getD]
    · have e : (l ++ [(a, b)]).getD i (0, 0) = l.getD i (0, 0) := by
        simp only [List.getD_eq_getElem?_getD]
        rw [List.getElem?_append_left (by omega)]
      rw [e]
      simp (disch := omega) only [sS_ne]
      exact m2 i (by omega)
/-- what reading the entries needs: notes may have been written -/
theorem mEs_nt {S' : mS} (D : df [73] [71, 72] S S') (H : mEs S es) (w : wE es) : mEs S' es := mEs_df D ⟨by decide, by decide⟩ H w
theorem mBk_nt {S' : mS} {i : Nat} {b : Bk} (D : df [73] [71, 72] S S') (M : mBk S i b) : mBk S' i b := mBk_df D (by decide) M
/-- a @param of a parameter -/
theorem g221_s (H : mEs S es) (w : wE es) {e k o j : Nat} (he : e < es.length) (hk : k < (ePs (gE es e)).length) (ho : o < es.length) (hj : j < (gC es o).2.1.length) : g221 (nI e) (nI k) (nI o) (nI (24 * o + j)) S = some (bZ (decide (bSo ((gC es o).2.1.getD j bkD) = 2) && decide (cut (gC es o).1 (bNf ((gC es o).2.1.getD j bkD)) (bNt ((gC es o).2.1.getD j bkD)) = (ePs (gE es e)).getD k [])), S) := by
  have w1 := w.1
  obtain ⟨_, _, n1, _, n3, _, n5, n6, _⟩ := mEn_cm H w ho
  obtain ⟨b1, b2⟩ := n3 j hj
  obtain ⟨_, _, m3, _⟩ := H.2 e he
  obtain ⟨p1, p2⟩ := m3.2 k hk
  have we := w.2 e he
  have h4 := we.2.2.2.2.2.2.1
  generalize (gC es o).2.1.getD j bkD = b at b1 b2 ⊢
  have wp := nmOK_NB (we.2.2.2.2.2.2.2.1 _ (gD_mem (d := []) hk))
  generalize (ePs (gE es e)).getD k [] = pn at p1 p2 wp ⊢
  obtain ⟨q1, q2, q3, q4, q5, q6, q7⟩ := b1
  obtain ⟨x1, x2, x3, x4, x5, x6, x7⟩ := b2
  have c5 := n5.1
  rw [show mSz.getD 12 0 = 24600 from rfl] at c5
  have c6 := p2.1
  rw [show mSz.getD 10 0 = 1600 from rfl] at c6
  unfold g221
  rw [ld_16 (by omega), q1, lt_4, pk_mul, nI_add, ld_11 (by omega), p1, ld_22 (by omega), q7.1]
  simp only [bS]
  have no : gj221_39 (nI e) (nI k) (nI o) (nI (24 * o + j)) (nI (4 * e + k)) S = some (bZ false, S) := by
    unfold gj221_39 gj221_40
    rw [xF1, gl221_45]
    dsimp only
    rw [ld_22 (by omega), q7.1]
    simp only [bS]
    rw [if_pos trivial, ite_self]
    rfl
  by_cases h2 : bSo b = 2
  · rw [if_pos (show nI (bSo b) = 2 by rw [h2]; rfl), decide_eq_true h2, Bool.true_and]
    by_cases h3 : bNt b - bNf b = pn.length
    · rw [if_pos (by rw [h3])]
      unfold gj221_40
      have key := l_al (fun n bb i => gl221_45 n (nI e) (nI k) (nI o) (nI (24 * o + j)) (nI (4 * e + k)) (bZ bb) (nI i) S) (fun i => tx pn i == tx (gC es o).1 (bNf b + i)) (fun bb => some (bZ bb, S)) (bNt b - bNf b) (fun n bb => ?_) (fun n i hi => ?_) (fun n i hi => ?_) (bNt b - bNf b) xFuel 0 true (by omega) (pFuel _ (by omega))
      · refine Eq.trans key ?_
        congr 3
        rw [Bool.true_and, Bool.eq_iff_iff, al_iff, decide_eq_true_eq, tx_ext, cut_len x6]
        constructor
        · intro h
          refine ⟨h3, fun i hi => ?_⟩
          rw [cut_tx (by omega)]
          have := h i (Nat.zero_le _) (by omega)
          rw [beq_iff_eq] at this
          exact this.symm
        · rintro ⟨_, h⟩ i _ hi
          have := h i (by omega)
          rw [cut_tx (by omega)] at this
          rw [this]
          simp
      · simp only [gl221_45, gj221_112]
        rw [ld_22 (by omega), q7.1]
        simp only [bS]
        rw [if_pos (nI_le (Nat.le_refl _) (by omega)), if_pos bZ_p]
      · simp only [gl221_45, gj221_112]
        rw [ld_22 (by omega), q7.1]
        simp only [bS]
        rw [if_neg (nI_ge hi (by omega)), if_pos bZf]
        rfl
      · have d1 := p2.ld (i := i) (by omega)
        have d2 := n5.ld (i := bNf b + i) (by omega)
        have d3 := (p2.2.2 i (by omega)).1
        have d4 := (n5.2.2 (bNf b + i) (by omega)).1
        simp only [gl221_45]
        rw [ld_22 (by omega), q7.1]
        simp only [bS]
        rw [if_neg (nI_ge hi (by omega)), if_neg bZt, lt_10, pk_mul, nI_add, d1, ld_21 (by omega), q6]
        simp only [bS]
        rw [lt_600, pk_mul, nI_add, nI_add, Nat.add_assoc, d2]
        simp only [bS, gj221_104, nI_1]
        by_cases h5 : tx pn i = tx (gC es o).1 (bNf b + i)
        · rw [if_pos (by rw [h5]), show (tx pn i == tx (gC es o).1 (bNf b + i)) = true from by simpa using h5, bZ_t]
        · rw [if_neg (nI_ne h5 (by omega) (by omega)), show (tx pn i == tx (gC es o).1 (bNf b + i)) = false from by simpa using h5, bZ_f]
    · rw [if_neg (nI_ne h3 (by omega) (by omega)), no, decide_eq_false fun h9 => h3 (by rw [← h9, cut_len x6])]
  · rw [if_neg (show ¬ _ = (2 : Int32) from nI_ne h2 (by omega) (by decide)), no, decide_eq_false h2]
    rfl
theorem any_tk {α : Type} {p : α → Bool} {l : List α} {k : Nat} (d : α) (h : k < l.length) : (l.take (k + 1)).any p = ((l.take k).any p || p (l.getD k d)) := by
  rw [take_s d h]
  simp
/-- whether a @param is of a parameter -/
theorem g220_s (H : mEs S es) (w : wE es) {e j : Nat} (he : e < es.length) (hj : j < (gC es e).2.1.length) (h2 : bSo ((gC es e).2.1.getD j bkD) = 2) : g220 (nI e) (nI (24 * e + j)) S = some (bZ ((ePs (gE es e)).any fun a => decide (a = cut (gC es e).1 (bNf ((gC es e).2.1.getD j bkD)) (bNt ((gC es e).2.1.getD j bkD)))), S) := by
  have w1 := w.1
  have h4 := (w.2 e he).2.2.2.2.2.2.1
  obtain ⟨_, _, m3, _⟩ := H.2 e he
  have key : ∀ k n i, i + k = (ePs (gE es e)).length → k < n → gl220_5 n (nI e) (nI (24 * e + j)) (bZ (((ePs (gE es e)).take i).any fun a => decide (a = cut (gC es e).1 (bNf ((gC es e).2.1.getD j bkD)) (bNt ((gC es e).2.1.getD j bkD))))) (nI i) S = some (bZ ((ePs (gE es e)).any fun a => decide (a = cut (gC es e).1 (bNf ((gC es e).2.1.getD j bkD)) (bNt ((gC es e).2.1.getD j bkD)))), S) := by
    intro k
    induction k with
    | zero =>
      intro n i hi hn
      obtain ⟨n, rfl⟩ : ∃ m, n = m + 1 := ⟨n - 1, by omega⟩
      rw [gl220_5]
      dsimp only
      rw [ld_9 (by omega), m3.1]
      simp only [bS]
      rw [if_pos (nI_le (by omega) (by omega)), if_pos bZ_p, List.take_of_length_le (by omega)]
    | succ k ih =>
      intro n i hi hn
      obtain ⟨n, rfl⟩ : ∃ m, n = m + 1 := ⟨n - 1, by omega⟩
      have := ih n (i + 1) (by omega) (by omega)
      rw [any_tk [] (by omega)] at this
      rw [gl220_5]
      dsimp only
      rw [ld_9 (by omega), m3.1]
      simp only [bS]
      rw [if_neg (nI_ge (by omega) (by omega)), g221_s H w he (by omega) he hj, h2]
      simp only [bS, bZ_0, gj220_32, gj220_37, nI_1]
      rw [← this]
      cases ((ePs (gE es e)).take i).any fun a => decide (a = cut (gC es e).1 (bNf ((gC es e).2.1.getD j bkD)) (bNt ((gC es e).2.1.getD j bkD))) with
      | true => rw [if_neg (show ¬ true = false by decide), Bool.true_or, bZ_t]
      | false =>
        rw [if_pos (Eq.refl false), Bool.false_or, show decide True = true from rfl, Bool.true_and]
        by_cases h : cut (gC es e).1 (bNf ((gC es e).2.1.getD j bkD)) (bNt ((gC es e).2.1.getD j bkD)) = (ePs (gE es e)).getD i []
        · rw [decide_eq_true h, decide_eq_true h.symm, if_neg (by decide), bZ_t]
        · rw [decide_eq_false h, decide_eq_false (fun h9 => h h9.symm), if_pos (Eq.refl false), bZ_f]
  exact key (ePs (gE es e)).length xFuel 0 (by omega) (pFuel _ (by omega))
/-- one entry's blocks tell it -/
def tl1 (es : List En) (nm : Option (List Nat)) (x : Nat) : Bool := match nm with
  | none => (gC es x).2.1.any fun b => bSo b == 3
  | some a => (gC es x).2.1.any fun b => (bSo b == 2) && decide (cut (gC es x).1 (bNf b) (bNt b) = a)
theorem told_s (es : List En) (nm : Option (List Nat)) (n x : Nat) : told es nm (n + 1) (some x) = (tl1 es nm x || told es nm n (abv es x)) := by
  cases nm <;> rfl
theorem told_n (es : List En) (nm : Option (List Nat)) (n : Nat) : told es nm n none = false := by cases n <;> rfl
theorem told_up (w : wE es) (nm : Option (List Nat)) : ∀ n m (o : Option Nat), rk es o ≤ n → rk es o ≤ m → (∀ e, o = some e → e < es.length) → told es nm n o = told es nm m o := by
  intro n
  induction n with
  | zero =>
    intro m o h1 h2 h3
    cases o with
    | none => rw [told_n, told_n]
    | some e => simp only [rk] at h1; split at h1 <;> omega
  | succ n ih =>
    intro m o h1 h2 h3
    cases o with
    | none => rw [told_n, told_n]
    | some e =>
      have he := h3 e rfl
      have hr := rk_abv w he
      obtain ⟨m, rfl⟩ : ∃ k, m = k + 1 := ⟨m - 1, by omega⟩
      rw [told_s, told_s, ih m (abv es e) (by omega) (by omega) fun a ha => (abv_lt w he ha).1]
/-- the blocks of one entry -/
theorem g223_b (H : mEs S es) (w : wE es) {e x : Nat} (he : e < es.length) (hx : x < es.length) (nm : Option (List Nat)) {so k : Nat} (hnm : (nm = none ∧ so = 3) ∨ (so = 2 ∧ k < (ePs (gE es e)).length ∧ nm = some ((ePs (gE es e)).getD k []))) (k6 : Int32 → Int32 → Int32 → Int32 → Int32 → mS → Option (Int32 × mS)) (is : Bool) : gl223_15 k6 xFuel (nI e) (nI so) (nI k) (bZ is) (nI x) (nI 0) S = k6 (nI e) (nI so) (nI k) (bZ (is || tl1 es nm x)) (oI (abv es x)) S := by
  have w1 := w.1
  obtain ⟨e14, _, n1, _, n3, _⟩ := mEn_cm H w hx
  obtain ⟨P, hP, hP2⟩ : ∃ P : Bk → Bool, tl1 es nm x = (gC es x).2.1.any P ∧ ∀ b, P b = (decide (bSo b = so) && (decide (so = 3) || (decide (bSo b = 2) && decide (cut (gC es x).1 (bNf b) (bNt b) = (ePs (gE es e)).getD k [])))) := by
    rcases hnm with ⟨h1, h2⟩ | ⟨h1, _, h2⟩
    · subst h1 h2
      exact ⟨_, rfl, fun b => by rw [Bool.eq_iff_iff]; simp⟩
    · subst h1 h2
      exact ⟨_, rfl, fun b => by
        by_cases hb : bSo b = 2 <;> simp [hb]⟩
  rw [hP]
  have key : ∀ m n i, i + m = (gC es x).2.1.length → m < n → gl223_15 k6 n (nI e) (nI so) (nI k) (bZ (is || ((gC es x).2.1.take i).any P)) (nI x) (nI i) S = k6 (nI e) (nI so) (nI k) (bZ (is || (gC es x).2.1.any P)) (oI (abv es x)) S := by
    intro m
    induction m with
    | zero =>
      intro n i hi hn
      obtain ⟨n, rfl⟩ : ∃ m, n = m + 1 := ⟨n - 1, by omega⟩
      rw [gl223_15]
      dsimp only
      rw [ld_14 (by omega), e14]
      simp only [bS]
      rw [if_pos (nI_le (by omega) (by omega)), g156_s H w hx, List.take_of_length_le (by omega)]
      simp only [bS]
    | succ m ih =>
      intro n i hi hn
      obtain ⟨n, rfl⟩ : ∃ m, n = m + 1 := ⟨n - 1, by omega⟩
      obtain ⟨b1, b2⟩ := n3 i (by omega)
      have := ih n (i + 1) (by omega) (by omega)
      rw [any_tk bkD (by omega), ← Bool.or_assoc] at this
      rw [gl223_15]
      dsimp only
      rw [ld_14 (by omega), e14]
      simp only [bS]
      rw [if_neg (nI_ge (by omega) (by omega)), lt_24, pk_mul, nI_add, ld_16 (by omega), b1.1]
      simp only [bS, bZ_0, gj223_71, gj223_75, gj223_76, nI_1]
      rw [← this, hP2]
      have b8 := b2.1
      cases is || ((gC es x).2.1.take i).any P with
      | true => rw [if_neg (show ¬ true = false by decide), Bool.true_or, bZ_t]
      | false =>
        rw [if_pos (Eq.refl false), Bool.false_or]
        by_cases h1 : bSo ((gC es x).2.1.getD i bkD) = so
        · rw [if_pos (by rw [h1]), decide_eq_true h1, Bool.true_and]
          by_cases h3 : so = 3
          · rw [if_pos (show nI so = 3 by rw [h3]; rfl), decide_eq_true h3, Bool.true_or, bZ_t]
          · have h2 := hnm.resolve_left fun h9 => h3 h9.2
            rw [if_neg (show ¬ _ = (3 : Int32) from nI_ne h3 (by omega) (by decide)), decide_eq_false h3, Bool.false_or, g221_s H w he h2.2.1 hx (by omega)]
            simp only [bS, bZ_0]
            cases (decide (bSo ((gC es x).2.1.getD i bkD) = 2) && decide (cut (gC es x).1 (bNf ((gC es x).2.1.getD i bkD)) (bNt ((gC es x).2.1.getD i bkD)) = (ePs (gE es e)).getD k [])) with
            | true => rw [if_neg (show ¬ true = false by decide), bZ_t]
            | false => rw [if_pos (Eq.refl false), bZ_f]
        · rw [if_neg (nI_ne h1 (by omega) (by rcases hnm with h | h <;> omega)), decide_eq_false h1, Bool.false_and, bZ_f]
  have := key (gC es x).2.1.length xFuel 0 (by omega) (pFuel _ (by omega))
  rw [show (is || ((gC es x).2.1.take 0).any P) = is by simp] at this
  exact this
/-- whether it is told, from an entry up -/
theorem g223_s (H : mEs S es) (w : wE es) {e : Nat} (he : e < es.length) (nm : Option (List Nat)) {so k : Nat} (hnm : (nm = none ∧ so = 3) ∨ (so = 2 ∧ k < (ePs (gE es e)).length ∧ nm = some ((ePs (gE es e)).getD k []))) : g223 (nI e) (nI so) (nI k) S = some (bZ (told es nm 40 (some e)), S) := by
  have w1 := w.1
  have key : ∀ n (o : Option Nat) is, rk es o ≤ n → (∀ x, o = some x → x < es.length) → gl223_6 (n + 1) (nI e) (nI so) (nI k) (bZ is) (oI o) S = some (bZ (is || told es nm 40 o), S) := by
    intro n
    induction n with
    | zero =>
      intro o is h h2
      cases o with
      | none =>
        rw [gl223_6, told_n, Bool.or_false]
        dsimp only
        rw [if_pos oI_n, if_pos bZ_p]
      | some x => simp only [rk] at h; split at h <;> omega
    | succ n ih =>
      intro o is h h2
      cases o with
      | none =>
        rw [gl223_6, told_n, Bool.or_false]
        dsimp only
        rw [if_pos oI_n, if_pos bZ_p]
      | some x =>
        have hx := h2 x rfl
        have hr := rk_abv w hx
        have hk := rk_le w h2
        rw [gl223_6]
        dsimp only
        rw [oI_s, if_neg (nI_nm (by omega)), show (0 : Int32) = nI 0 from rfl, g223_b H w he hx nm hnm, ih (abv es x) _ (by omega) (fun a ha => (abv_lt w hx ha).1), show (40 : Nat) = 39 + 1 from rfl, told_s, told_up w nm (39 + 1) 39 (abv es x) (by omega) (by omega) (fun a ha => (abv_lt w hx ha).1), Bool.or_assoc]
  have := key 999999 (some e) false (by have := rk_le w (o := some e) (fun x hx => by cases hx; exact he); omega) (fun x hx => by cases hx; exact he)
  rw [Bool.false_or] at this
  exact this
end PMNT
