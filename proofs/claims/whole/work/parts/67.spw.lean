section PSPW
variable {f : Nat → Nat} {n a to : Nat} {r : Rd}
theorem pCos_app (p : Pc) : ∀ ps, pCos (ps ++ [p]) = pCos ps + pCo p := by
  intro ps
  induction ps with
  | nil => simp [pCos]
  | cons q ps ih => simp only [List.cons_append, pCos, ih]; omega
theorem bMas_app (b : Bk) : ∀ l, bMas (l ++ [b]) = bMas l + bMa b := by
  intro l
  induction l with
  | nil => simp [bMas]
  | cons q ps ih => simp only [List.cons_append, bMas, ih]; omega
theorem wRd.mono (w : wRd f n a r) {b : Nat} (h : a ≤ b) : wRd f n b r := ⟨w.1, w.2.1, w.2.2.1, w.2.2.2.1, Nat.le_trans w.2.2.2.2.1 h, w.2.2.2.2.2⟩
theorem pcs_w (ht : to ≤ n) (hE : f to = 10 ∨ 256 ≤ f to) : ∀ m i gl (ps : List Pc), i ≤ to → ps.length ≤ 120 → (∀ p ∈ ps, wP f n p) → pCos ps ≤ i → (pcs f to m i gl ps).2 = none → ps.length ≤ (pcs f to m i gl ps).1.length ∧ (pcs f to m i gl ps).1.length ≤ 120 ∧ (∀ p ∈ (pcs f to m i gl ps).1, wP f n p) ∧ pCos (pcs f to m i gl ps).1 ≤ to := by
  intro m
  induction m with
  | zero =>
    intro i gl ps hi h1 h2 h3 _
    exact ⟨Nat.le_refl _, h1, h2, by simp only [pcs]; omega⟩
  | succ m ih =>
    intro i gl ps hi h1 h2 h3 h
    rw [pcs] at h ⊢
    by_cases h4 : to ≤ i
    · rw [if_pos h4] at h ⊢
      exact ⟨Nat.le_refl _, h1, h2, by dsimp only; omega⟩
    · rw [if_neg h4] at h ⊢
      cases hq : pcOne f i to with
      | none =>
        rw [hq] at h
        cases h
      | some q =>
        rw [hq] at h
        have hp := pc_le (show i < to by omega) hE hq
        obtain ⟨so, sf, st, nf, nt, bh⟩ := q
        dsimp only at h hp ⊢
        by_cases h5 : ps.length = 120
        · rw [if_pos h5] at h
          cases h
        · rw [if_neg h5] at h ⊢
          have k := skp_ge (f := f) (show bh ≤ to by omega)
          have hc : pCo (so, i, sf, st, nf, nt, gl) ≤ bh - i := by
            show st - sf + (if so = 2 then 4 else 0) ≤ bh - i
            by_cases h6 : so = 2
            · subst h6
              rw [if_pos rfl]
              have x1 := hp.2.2.2.2.2.2.2.2.2.1
              rw [if_neg (by decide)] at x1
              have x2 := pc_sf (show i < to by omega) hE hq (show (2 : Nat) ≠ 0 by decide)
              dsimp only at x2
              omega
            · rw [if_neg h6]
              have x1 := hp.2.2.2.2.2.2.2.2.2.1
              split at x1 <;> omega
          have := ih (skp f bh to) (skp f bh to == bh) (ps ++ [(so, i, sf, st, nf, nt, gl)]) (by omega) (by simp; omega) (fun p hm => ?_) (by rw [pCos_app]; omega) h
          · refine ⟨?_, this.2⟩
            have := this.1
            simp at this
            omega
          · rw [List.mem_append] at hm
            rcases hm with hm | hm
            · exact h2 p hm
            · simp at hm
              subst hm
              exact ⟨hp.1, by show i < n; omega, by show sf ≤ st; omega, by show st ≤ n; omega, hp.2.2.2.2.1, by show nt ≤ n; omega, fun h9 => (hp.2.2.2.2.2.2.2.2.1 h9).1⟩
theorem wB.mono {k k2 : Nat} {b : Bk} (w : wB f n k b) (h : k ≤ k2) : wB f n k2 b := ⟨w.1, w.2.1, w.2.2.1, Nat.le_trans w.2.2.2.1 h, w.2.2.2.2⟩
theorem upR_mem {ps : List Pc} {b : Bk} (h : 0 < r.1.length) (hb : b ∈ (upR r ps).1) : b ∈ r.1 ∨ b = bPlus (lastB r) (ps.length - r.2.length) := by
  simp only [upR, List.mem_append, List.mem_singleton] at hb
  rcases hb with hb | hb
  · exact Or.inl ((List.dropLast_sublist _).mem hb)
  · exact Or.inr hb
theorem lastB_mem (h : 0 < r.1.length) : lastB r ∈ r.1 := by
  rw [lastB_g h]
  exact gD_mem (by omega)
/-- the sorts stay -/
theorem upR_map {α : Type} {ps : List Pc} (h : 0 < r.1.length) (g : Bk → α) (hg : ∀ b m, g (bPlus b m) = g b) : (upR r ps).1.map g = r.1.map g := by
  have h1 : r.1 ≠ [] := fun h9 => by rw [h9] at h; exact absurd h (by decide)
  unfold upR
  have e : lastB r = r.1.getLast h1 := by
    unfold lastB
    rw [List.getLastD_eq_getLast?, List.getLast?_eq_some_getLast h1]
    rfl
  rw [List.map_append, List.map_singleton, hg, e]
  conv => rhs; rw [← List.dropLast_concat_getLast h1]
  simp
theorem flt_map {l m : List Bk} (h : l.map bSo = m.map bSo) (s : Nat) : (l.filter fun b => bSo b == s).length = (m.filter fun b => bSo b == s).length := by
  have e : ∀ l : List Bk, (l.filter fun b => bSo b == s).length = ((l.map bSo).filter fun x => x == s).length := fun l => by
    rw [List.filter_map, List.length_map]
    rfl
  rw [e, e, h]
theorem gD_map {α β : Type} (g : α → β) {l : List α} {i : Nat} {d : α} : g (l.getD i d) = (l.map g).getD i (g d) := by
  simp only [List.getD_eq_getElem?_getD, List.getElem?_map]
  cases l[i]? <;> rfl
theorem jOK_map {l m : List Bk} (h : l.map bSo = m.map bSo) (h2 : l.map bJo = m.map bJo) (w : jOK m) : jOK l := by
  have e : l.length = m.length := by
    have := congrArg List.length h
    simpa using this
  intro i hi hj
  rw [gD_map bJo, h2, ← gD_map] at hj
  rw [gD_map bSo, h, ← gD_map]
  exact w i (by omega) hj
theorem rdPcs_w (ht : to ≤ n) (hE : f to = 10 ∨ 256 ≤ f to) (w : wRd f n a r) (hL : 0 < r.1.length) {i : Nat} (ha : a ≤ i) (hi : i ≤ to) (h : (rdPcs f to i r).2 = none) : wRd f n to (rdPcs f to i r).1 ∧ 0 < (rdPcs f to i r).1.1.length := by
  rw [rdPcs_eq] at h ⊢
  dsimp only at h ⊢
  have k := skp_ge (f := f) hi
  obtain ⟨w1, w2, w3, w4, w5, w6, w7, w8, w9⟩ := w
  obtain ⟨p1, p2, p3, p4⟩ := pcs_w ht hE 700 (skp f i to) false r.2 (by omega) w2 w4 (by omega) h
  generalize (pcs f to 700 (skp f i to) false r.2).1 = ps at p1 p2 p3 p4 ⊢
  have mS : (upR r ps).1.map bSo = r.1.map bSo := upR_map hL bSo fun _ _ => rfl
  have mJ : (upR r ps).1.map bJo = r.1.map bJo := upR_map hL bJo fun _ _ => rfl
  refine ⟨⟨by rw [upR_len hL]; exact w1, p2, fun b hb => ?_, p3, p4, by rw [flt_map mS]; exact w6, by rw [flt_map mS]; exact w7, jOK_map mS mJ w8, ?_⟩, by rw [upR_len hL]; exact hL⟩
  rcases upR_mem hL hb with hb | hb
  · exact (w3 b hb).mono p1
  · subst hb
    obtain ⟨x1, x2, x3, x4, x5⟩ := w3 _ (lastB_mem hL)
    refine ⟨x1, x2, x3, ?_, x5⟩
    show bFi (lastB r) + (bMa (lastB r) + (ps.length - r.2.length)) ≤ ps.length
    omega
  · have h1 : r.1 ≠ [] := fun h9 => by rw [h9] at hL; exact absurd hL (by decide)
    have e : lastB r = r.1.getLast h1 := by
      unfold lastB
      rw [List.getLastD_eq_getLast?, List.getLast?_eq_some_getLast h1]
      rfl
    have e2 : bMas (r.1.dropLast ++ [r.1.getLast h1]) = bMas r.1 := by rw [List.dropLast_concat_getLast h1]
    rw [bMas_app] at e2
    show bMas (r.1.dropLast ++ [bPlus (lastB r) (ps.length - r.2.length)]) ≤ ps.length
    rw [bMas_app, e]
    show bMas r.1.dropLast + (bMa (r.1.getLast h1) + (ps.length - r.2.length)) ≤ ps.length
    omega
theorem opn_w (w : wRd f n a r) (hl : r.1.length < 24) {so pl de nf nt : Nat} {jo : Bool} (hb : wB f n r.2.length (so, pl, de, r.2.length, 0, nf, nt, jo)) (h3 : so = 3 → (r.1.any fun b => bSo b == 3) = false) (h7 : so = 7 → (r.1.any fun b => bSo b == 7) = false) (hj : jo = true → 0 < r.1.length ∧ bSo (lastB r) = 1) : wRd f n a (opn r so pl de nf nt jo) ∧ 0 < (opn r so pl de nf nt jo).1.length := by
  obtain ⟨w1, w2, w3, w4, w5, w6, w7, w8, w9⟩ := w
  have fl : ∀ s, (so = s → (r.1.any fun b => bSo b == s) = false) → (r.1.filter fun b => bSo b == s).length ≤ 1 → ((opn r so pl de nf nt jo).1.filter fun b => bSo b == s).length ≤ 1 := fun s hs h1 => by
    show ((r.1 ++ [_]).filter fun b => bSo b == s).length ≤ 1
    rw [List.filter_append, List.length_append]
    by_cases h : so = s
    · have h0 : (r.1.filter fun b => bSo b == s) = [] := by
        rw [List.filter_eq_nil_iff]
        intro b hb h9
        have := hs h
        rw [List.any_eq_false] at this
        exact this b hb h9
      rw [h0]
      have := List.length_filter_le (fun b => bSo b == s) [(so, pl, de, r.2.length, 0, nf, nt, jo)]
      simp at this ⊢
      omega
    · have : ([((so, pl, de, r.2.length, 0, nf, nt, jo) : Bk)].filter fun b => bSo b == s) = [] := by
        rw [List.filter_eq_nil_iff]
        intro b hb h9
        simp at hb
        subst hb
        exact h (by simpa [bSo] using h9)
      rw [this]
      simpa using h1
  refine ⟨⟨by rw [opn_len]; omega, w2, fun b hb2 => ?_, w4, w5, fl 3 h3 w6, fl 7 h7 w7, fun i hi hj2 => ?_, ?_⟩, by rw [opn_len]; omega⟩
  · have hb2 : b ∈ r.1 ++ [(so, pl, de, r.2.length, 0, nf, nt, jo)] := hb2
    rw [List.mem_append, List.mem_singleton] at hb2
    rcases hb2 with hb2 | hb2
    · exact w3 b hb2
    · subst hb2
      exact hb
  · rw [opn_len] at hi
    rw [opn_get] at hj2 ⊢
    by_cases h : i = r.1.length
    · rw [if_pos h] at hj2
      obtain ⟨j1, j2⟩ := hj hj2
      rw [if_neg (by omega), h, ← lastB_g j1]
      exact ⟨j1, j2⟩
    · rw [if_neg h] at hj2
      rw [if_neg (by omega)]
      exact w8 i (by omega) hj2
  · show bMas (r.1 ++ [(so, pl, de, r.2.length, 0, nf, nt, jo)]) ≤ r.2.length
    rw [bMas_app]
    exact w9
theorem rdItem_w (ht : to ≤ n) (hE : f to = 10 ∨ 256 ≤ f to) (w : wRd f n a r) {fi bl : Nat} {gap : Bool} (hf : fi < to) (ha : a ≤ fi) (h : (rdItem f fi to bl gap r).2 = none) : wRd f n to (rdItem f fi to bl gap r).1 ∧ 0 < (rdItem f fi to bl gap r).1.1.length := by
  unfold rdItem at h ⊢
  dsimp only at h ⊢
  generalize hah : (decide (0 < r.1.length) && !gap && decide (bSo (lastB r) = 1)) = ah at h ⊢
  generalize (if ah = true then bDe (lastB r) + 1 else 0) = most at h ⊢
  by_cases c1 : hasTg r = true
  · rw [if_pos c1] at h
    cases h
  rw [if_neg c1] at h ⊢
  by_cases c2 : bl % 2 = 1 ∨ 2 < bl / 2 ∨ most < bl / 2
  · rw [if_pos c2] at h
    cases h
  rw [if_neg c2] at h ⊢
  by_cases c3 : r.1.length = 24
  · rw [if_pos c3] at h
    cases h
  rw [if_neg c3] at h ⊢
  have wb : wB f n r.2.length (1, fi, bl / 2, r.2.length, 0, 0, 0, ah) := ⟨by show 1 ≤ 7; decide, by show fi < n; omega, by show bl / 2 ≤ 2; omega, Nat.le_refl _, Nat.le_refl _, Nat.zero_le _, fun h9 => absurd h9 (by show ¬ (1 = 4 ∨ 1 = 5); decide), fun h9 => absurd h9 (by show ¬ 1 = 2; decide), fun h9 => absurd h9 (by show ¬ 1 = 6; decide)⟩
  have o := opn_w (so := 1) (pl := fi) (de := bl / 2) (nf := 0) (nt := 0) (jo := ah) w (by have := w.1; omega) wb (fun h9 => absurd h9 (by decide)) (fun h9 => absurd h9 (by decide)) (fun h9 => by
    subst h9
    simp at hah
    exact ⟨by omega, hah.2⟩)
  exact rdPcs_w ht hE o.1 o.2 (show a ≤ fi + 1 by omega) (by omega) h
theorem rdText_w (ht : to ≤ n) (hE : f to = 10 ∨ 256 ≤ f to) (w : wRd f n a r) {fi : Nat} {gap mb : Bool} (hf : fi < to) (ha : a ≤ fi) (hg : r.1.length = 0 → gap = true) (h : (rdText f n mb fi to gap r).2 = none) : wRd f n to (rdText f n mb fi to gap r).1 ∧ 0 < (rdText f n mb fi to gap r).1.1.length := by
  have wb : ∀ so, (so = 0 ∨ so = 7) → wB f n r.2.length (so, fi, 0, r.2.length, 0, 0, 0, false) := fun so hs => ⟨by show so ≤ 7; omega, by show fi < n; omega, Nat.zero_le _, Nat.le_refl _, Nat.le_refl _, Nat.zero_le _, fun h9 => by have h9 : so = 4 ∨ so = 5 := h9; omega, fun h9 => by have h9 : so = 2 := h9; omega, fun h9 => by have h9 : so = 6 := h9; omega⟩
  unfold rdText at h ⊢
  cases gap with
  | true =>
    rw [if_pos rfl] at h ⊢
    split at h
    · cases h
    · rename_i c1
      rw [if_neg c1]
      by_cases hi : isInh f n mb fi to = true
      · rw [if_pos hi] at h ⊢
        split at h
        · cases h
        · rename_i c2
          rw [if_neg c2]
          split at h
          · cases h
          · rename_i c3
            rw [if_neg c3]
            have o := opn_w (so := 7) (pl := fi) (de := 0) (nf := 0) (nt := 0) (jo := false) w (by have := w.1; omega) (wb 7 (Or.inr rfl)) (fun h9 => by cases h9) (fun _ => Bool.eq_false_iff.mpr c3) (fun h9 => by cases h9)
            exact ⟨o.1.mono (by omega), o.2⟩
      · rw [if_neg hi] at h ⊢
        split at h
        · cases h
        · rename_i c2
          rw [if_neg c2]
          split at h
          · cases h
          · rename_i c3
            rw [if_neg c3]
            have o := opn_w (so := 0) (pl := fi) (de := 0) (nf := 0) (nt := 0) (jo := false) w (by have := w.1; omega) (wb 0 (Or.inl rfl)) (fun h9 => by cases h9) (fun h9 => by cases h9) (fun h9 => by cases h9)
            exact rdPcs_w ht hE o.1 o.2 ha (by omega) h
  | false =>
    rw [if_neg (by decide)] at h ⊢
    split at h
    · cases h
    · rename_i c1
      rw [if_neg c1]
      exact rdPcs_w ht hE w (Nat.pos_of_ne_zero fun h9 => by have := hg h9; cases this) ha (by omega) h
end PSPW
