section PMPAR
def mCo (S : mS) (e : Nat) (c : Option Cm) : Prop := match c with
  | none => S.2 13 e = -1 ∧ S.2 14 e = 0 ∧ S.2 15 e = 0
  | some c => mCm S e c
variable {S S' : mS} {σ : St} {es : List En}
/-- the comment of an entry changes -/
theorem mEn_c {e : Nat} {n : En} (M : mEn S e n) (h : ∀ k, 3 ≤ k → k ≤ 11 → ∀ i, S'.2 k i = S.2 k i) (c : Option Cm) (hc : mCo S' e c) : mEn S' e (eOw n, ePa n, eGv n, eNm n, ePs n, c) := by
  obtain ⟨⟨a1, a2, a3, a4⟩, ⟨b1, b2⟩, ⟨c1, c2⟩, _⟩ := M
  refine ⟨⟨by rw [h 3 (by decide) (by decide)]; exact a1, by rw [h 4 (by decide) (by decide)]; exact a2, by rw [h 5 (by decide) (by decide)]; exact a3, by rw [h 6 (by decide) (by decide)]; exact a4⟩, ⟨by rw [h 8 (by decide) (by decide)]; exact b1, aF_ag b2 fun i hi => h 7 (by decide) (by decide) _⟩, ⟨by rw [h 9 (by decide) (by decide)]; exact c1, fun k hk => ?_⟩, hc⟩
  obtain ⟨p1, p2⟩ := c2 k hk
  exact ⟨by rw [h 11 (by decide) (by decide)]; exact p1, aF_ag p2 fun i hi => h 10 (by decide) (by decide) _⟩
theorem setC_gE {e x : Nat} {c : Option Cm} (he : e < es.length) : gE (setC es e c) x = if x = e then (eOw (gE es e), ePa (gE es e), eGv (gE es e), eNm (gE es e), ePs (gE es e), c) else gE es x := gE_set he
theorem setC_len {e : Nat} {c : Option Cm} : (setC es e c).length = es.length := by simp [setC]
/-- an entry's comment changes, the others' stay -/
theorem mEs_c {e : Nat} (M : mEs S es) (w : wE es) (he : e < es.length) (c : Option Cm) (h2 : S'.1 2 = S.1 2) (h : ∀ k, 3 ≤ k → k ≤ 11 → ∀ i, S'.2 k i = S.2 k i) (hA : ∀ x, x < es.length → x ≠ e → ag x S S') (hc : mCo S' e c) : mEs S' (setC es e c) := by
  refine ⟨by rw [setC_len, h2]; exact M.1, fun x hx => ?_⟩
  rw [setC_len] at hx
  rw [setC_gE he]
  by_cases hxe : x = e
  · subst hxe
    rw [if_pos rfl]
    exact mEn_c (M.2 x hx) h c hc
  · rw [if_neg hxe]
    exact mEn_ag (M.2 x hx) (w.2 x hx) (hA x hx hxe)
/-- bare -/
theorem m_bare (M : MR S σ) (w : wSt σ) (a : Nat → Int32) : ∃ S', g191 (a 1) S = some ((stp σ 7 a).1, S') ∧ MR S' (stp σ 7 a).2 := by
  have H := M.2.1
  have wE1 := w.2.1
  have w1 := wE1.1
  show ∃ S', _ = some ((sBare σ (a 1)).1, S') ∧ MR S' (sBare σ (a 1)).2
  unfold g191 sBare
  rw [g148_s H wE1]
  simp only [Option.bind_some, bZ_0]
  cases he : eIx σ.2.1 (a 1) with
  | none => exact ⟨S, rfl, M⟩
  | some e =>
    obtain ⟨h1, e1⟩ := eIx_lt he
    obtain ⟨_, _, _, m4⟩ := H.2 e h1
    rw [if_neg (by simp), e1, ld_13 (by omega)]
    simp only [Option.bind_some]
    cases hc : eCm (gE σ.2.1 e) with
    | none =>
      rw [hc] at m4
      rw [m4.1]
      exact ⟨S, rfl, M⟩
    | some c =>
      rw [hc] at m4
      have := ((wE1.2 e h1).2.2.2.2.2.2.2.2 c hc).1.1
      rw [m4.1, if_neg (nI_nm (by omega))]
      simp (disch := omega) only [ld_14, st_13, st_14, st_15, Option.bind_some, m4.2.2.1.1]
      refine ⟨_, rfl, ?_⟩
      have D : df [] [13, 14, 15] S (sSet (sSet (sSet S 13 e (-1)) 14 e 0) 15 e 0) := ((df.set (by decide)).tr (df.set (by decide))).tr (df.set (by decide))
      refine ⟨mTp_df D (by decide) M.1, mEs_c H wE1 h1 none rfl (fun k h3 h4 i => ?_) (fun x hx hxe => ?_) ⟨?_, ?_, ?_⟩, M.2.2.1, mPg_df D (by decide) M.2.2.2.1, mNt_df D (by decide) M.2.2.2.2⟩
      · rw [D.2 k (by simp; omega)]
      · refine ((ag.set ?_).tr (ag.set ?_)).tr (ag.set ?_)
        all_goals (simp [uE]; omega)
      · simp [sS2]
      · simp [sS2]
      · simp [sS2]
/-- parameter -/
theorem m_param (M : MR S σ) (w : wSt σ) (a : Nat → Int32) : ∃ S', g155 (a 1) S = some ((stp σ 4 a).1, S') ∧ MR S' (stp σ 4 a).2 := by
  have T := M.1
  have H := M.2.1
  have wE1 := w.2.1
  have w1 := wE1.1
  have hT : MR (sPut S 1 0) ([], σ.2) := MR_tape M w (df.put (by decide)) mTp_0
  show ∃ S', _ = some ((sPar σ (a 1)).1, S') ∧ MR S' (sPar σ (a 1)).2
  have ff : ∀ x x3 : Int32, gj155_81 x (bZ false) x3 S = some (-1, sPut S 1 0) := fun x x3 => rfl
  have f0 : ∀ x x3 : Int32, gj155_22 x (bZ false) S = some (-1, sPut S 1 0) := fun x x3 => rfl
  unfold g155
  have gq : g149 (a 1) 0 S = _ := g149_s H wE1 (a 1) false
  have gr : g150 0 S = _ := g150_s T false
  rw [gq]
  simp only [Option.bind_some, gr, bZ_0]
  unfold sPar
  cases he : eIx σ.2.1 (a 1) with
  | none => exact ⟨_, f0 (a 1) 0, hT⟩
  | some e =>
    obtain ⟨h1, hx⟩ := eIx_lt he
    obtain ⟨_, _, ⟨m1, m2⟩, _⟩ := H.2 e h1
    have wp := (wE1.2 e h1).2.2.2.2.2.2.1
    have wq := (wE1.2 e h1).2.2.2.2.2.2.2.1
    dsimp only
    rw [hx]
    rcases Bool.eq_false_or_eq_true (isTy σ.2.1 e) with hty | hty
    · rw [if_pos (by rw [hty]; rfl), if_neg fun h9 => by rw [hty] at h9; cases h9.1]
      exact ⟨_, f0 (nI e) 0, hT⟩
    · rw [if_neg (by rw [hty]; simp)]
      rcases Bool.eq_false_or_eq_true (nmWh σ.1 false) with hnm | hnm
      rotate_left
      · rw [if_pos hnm, if_neg fun h9 => by rw [hnm] at h9; cases h9.2.1]
        exact ⟨_, f0 (nI e) 0, hT⟩
      · rw [if_neg (by rw [hnm]; simp)]
        unfold gj155_22
        have key := l_al (fun n b j => gl155_25 n (nI e) (bZ b) (nI j) S) (fun j => !decide ((ePs (gE σ.2.1 e)).getD j [] = σ.1)) (fun b => gj155_81 (nI e) (bZ b) (nI 0) S) (ePs (gE σ.2.1 e)).length (fun n b => ?_) (fun n j hj => ?_) (fun n j hj => ?_) (ePs (gE σ.2.1 e)).length xFuel 0 true (by omega) (pFuel _ (by omega))
        · rw [show gl155_25 xFuel (nI e) 1 0 S = _ from key, Bool.true_and]
          have q : ((ePs (gE σ.2.1 e)).any (fun a => decide (a = σ.1)) = false) ↔ al (fun j => !decide ((ePs (gE σ.2.1 e)).getD j [] = σ.1)) 0 (ePs (gE σ.2.1 e)).length = true := by
            rw [al_iff, List.any_eq_false]
            constructor
            · intro h j _ hj
              have := h ((ePs (gE σ.2.1 e)).getD j []) (by simp [List.getD_eq_getElem?_getD, show j < (ePs (gE σ.2.1 e)).length by omega])
              simpa using this
            · intro h x hx
              obtain ⟨j, hj, rfl⟩ := List.getElem_of_mem hx
              have := h j (Nat.zero_le _) (by omega)
              simpa [List.getD_eq_getElem?_getD, hj] using this
          cases hal : al (fun j => !decide ((ePs (gE σ.2.1 e)).getD j [] = σ.1)) 0 (ePs (gE σ.2.1 e)).length with
          | false =>
            rw [hal] at q
            rw [if_neg fun h9 => by have := q.mp h9.2.2; cases this]
            exact ⟨_, ff _ _, hT⟩
          | true =>
            rw [hal] at q
            rw [if_pos ⟨hty, hnm, q.mpr rfl⟩]
            have hb : σ.1.length ≤ 10 := by
              have := hnm
              unfold nmWh at this
              rw [Bool.and_eq_true] at this
              exact (nmOK_NB this.1).2.1
            unfold gj155_81
            rw [if_neg (by decide)]
            unfold gj155_91
            rw [if_neg (by decide), ld_9 (by omega), m1]
            simp (disch := omega) only [Option.bind_some, lt_4, pk_mul, nI_add, nI_leI]
            by_cases h4 : (ePs (gE σ.2.1 e)).length = 4
            · rw [if_pos (by omega), if_pos h4]
              exact ⟨_, rfl, hT⟩
            · rw [if_neg (by omega), if_neg h4]
              generalize hm : (ePs (gE σ.2.1 e)).length = m at h4 m1 m2 wp
              simp (disch := omega) only [st_11, Option.bind_some, T.1]
              obtain ⟨S1, hS1⟩ : ∃ S1, S1 = sSet S 11 (4 * e + m) (nI σ.1.length) := ⟨_, rfl⟩
              rw [← hS1]
              have e0 : S1.1 1 = nI σ.1.length := by rw [hS1]; exact T.1
              have e9 : S1.2 9 = S.2 9 := by rw [hS1]; funext i; rw [sS2, if_neg (by simp)]
              have z0 : S1.2 0 = S.2 0 := by rw [hS1]; funext i; rw [sS2, if_neg (by simp)]
              have key2 := l_fl (fun n k s => gl155_132 n (nI e) (bZ true) (-3) (nI (4 * e + m)) (nI k) s) (fun k s => sSet s 10 (10 * (4 * e + m) + k) (S.2 0 k)) (fun s => (sLd s 9 (nI e)).bind fun v_2 => (sSt s 9 (nI e) (v_2 + 1)).bind fun S_3 => (sLd S_3 9 (nI e)).bind fun v_5 => gj155_184 (nI e) (bZ true) v_5 S_3) (fun k s => df [] [10] S1 s ∧ ∀ i, s.2 10 i = if 10 * (4 * e + m) ≤ i ∧ i < 10 * (4 * e + m) + k then S.2 0 (i - 10 * (4 * e + m)) else S1.2 10 i) σ.1.length (fun n s hs => ?_) (fun n k s hk hs => ?_) σ.1.length xFuel 0 S1 (by omega) (pFuel _ (by omega)) ⟨df.rfl', fun i => by rw [if_neg (by omega)]⟩
              · rw [show gl155_132 xFuel (nI e) (bZ true) (-3) (nI (4 * e + m)) 0 S1 = _ from key2.1]
                obtain ⟨k1, k2⟩ := key2.2
                generalize fl (fun k s => sSet s 10 (10 * (4 * e + m) + k) (S.2 0 k)) 0 σ.1.length S1 = S2 at k1 k2
                have c9 : S2.2 9 = S.2 9 := by rw [k1.2 9 (by decide), e9]
                have c2 : ∀ j, j ≠ 10 → S2.2 j = S1.2 j := fun j hj => k1.2 j (by simpa using hj)
                simp (disch := omega) only [ld_9, st_9, Option.bind_some, c9, m1, nI_1]
                have c10 : (sSet S2 9 e (nI (m + 1))).2 9 e = nI (m + 1) := by rw [sS2, if_pos ⟨rfl, rfl⟩]
                rw [c10]
                refine ⟨_, rfl, ?_⟩
                have D : df [1, 2] [3, 4, 5, 6, 7, 8, 9, 10, 11, 12, 13, 14, 15, 16, 17, 18, 19, 20, 21, 22, 23, 24, 25, 26, 27, 28, 29, 30] S (sPut (sSet S2 9 e (nI (m + 1))) 1 0) := by
                  refine (((df.tr (S1 := S1) ?_ (k1.mono (by simp) (by simp))).tr (df.set (by decide))).tr (df.put (by decide)))
                  rw [hS1]
                  exact df.set (by decide)
                refine MR_es M D mTp_0 (mEs_put (by decide) ?_)
                refine ⟨?_, fun x hx2 => ?_⟩
                · rw [List.length_set, sS1, k1.1 2 (by simp), hS1]
                  exact H.1
                · rw [List.length_set] at hx2
                  rw [gE_set h1]
                  by_cases hxe : x = e
                  · subst hxe
                    rw [if_pos rfl]
                    obtain ⟨⟨a1, a2, a3, a4⟩, ⟨b1, b2⟩, _, dd⟩ := H.2 x h1
                    have hA : ∀ k, k ≠ 9 → k ≠ 10 → k ≠ 11 → (sSet S2 9 x (nI (m + 1))).2 k = S.2 k := by
                      intro k n9 n10 n11
                      funext i
                      rw [sS2, if_neg fun h9 => n9 h9.1, c2 k n10, hS1, sS2, if_neg fun h9 => n11 h9.1]
                    refine ⟨⟨by rw [hA 3 (by decide) (by decide) (by decide)]; exact a1, by rw [hA 4 (by decide) (by decide) (by decide)]; exact a2, by rw [hA 5 (by decide) (by decide) (by decide)]; exact a3, by rw [hA 6 (by decide) (by decide) (by decide)]; exact a4⟩, ⟨by rw [hA 8 (by decide) (by decide) (by decide)]; exact b1, aF_ag b2 fun i hi => by rw [hA 7 (by decide) (by decide) (by decide)]⟩, ⟨?_, fun k hk => ?_⟩, ?_⟩
                    · rw [sS2, if_pos ⟨rfl, rfl⟩]
                      show nI (m + 1) = nI (ePs (gE σ.2.1 x) ++ [σ.1]).length
                      rw [List.length_append, hm]
                      rfl
                    · have hk : k < m + 1 := by
                        have : k < (ePs (gE σ.2.1 x) ++ [σ.1]).length := hk
                        rw [List.length_append, hm] at this
                        exact this
                      have r11 : (sSet S2 9 x (nI (m + 1))).2 11 (4 * x + k) = if k = m then nI σ.1.length else S.2 11 (4 * x + k) := by
                        rw [sS2, if_neg (by simp), c2 11 (by decide), hS1, sS2]
                        by_cases hkm : k = m
                        · rw [if_pos ⟨rfl, by omega⟩, if_pos hkm]
                        · rw [if_neg (by omega), if_neg hkm]
                      have r10 : ∀ i, i < 10 → (sSet S2 9 x (nI (m + 1))).2 10 (10 * (4 * x + k) + i) = if k = m ∧ i < σ.1.length then S.2 0 i else S.2 10 (10 * (4 * x + k) + i) := by
                        intro i hi
                        rw [sS2, if_neg (by simp), k2]
                        by_cases hkm : k = m ∧ i < σ.1.length
                        · rw [if_pos ⟨by omega, by omega⟩, if_pos hkm, show 10 * (4 * x + k) + i - 10 * (4 * x + m) = i by omega]
                        · rw [if_neg (by omega), if_neg hkm, hS1, sS2, if_neg (by simp)]
                      show (sSet S2 9 x (nI (m + 1))).2 11 (4 * x + k) = nI ((ePs (gE σ.2.1 x) ++ [σ.1]).getD k []).length ∧ aF (sSet S2 9 x (nI (m + 1))) 10 (10 * (4 * x + k)) (tx ((ePs (gE σ.2.1 x) ++ [σ.1]).getD k [])) ((ePs (gE σ.2.1 x) ++ [σ.1]).getD k []).length
                      rw [r11]
                      by_cases hkm : k = m
                      · have e5 : (ePs (gE σ.2.1 x) ++ [σ.1]).getD k [] = σ.1 := by
                          rw [List.getD_eq_getElem?_getD, List.getElem?_append_right (by omega), hm, hkm]
                          simp
                        rw [if_pos hkm, e5]
                        refine ⟨rfl, by show 10 * (4 * x + k) + σ.1.length ≤ 1600; omega, by show 1600 < 30000; decide, fun i hi => ?_⟩
                        rw [r10 i (by omega), if_pos ⟨hkm, hi⟩]
                        have := T.2.2.2 i hi
                        rw [Nat.zero_add] at this
                        exact this
                      · have e5 : (ePs (gE σ.2.1 x) ++ [σ.1]).getD k [] = (ePs (gE σ.2.1 x)).getD k [] := by
                          rw [List.getD_eq_getElem?_getD, List.getElem?_append_left (by omega), ← List.getD_eq_getElem?_getD]
                        obtain ⟨p1, p2⟩ := m2 k (by omega)
                        have hmm : (ePs (gE σ.2.1 x)).getD k [] ∈ ePs (gE σ.2.1 x) := by simp [List.getD_eq_getElem?_getD, show k < (ePs (gE σ.2.1 x)).length by omega]
                        have n2 := (nmOK_NB (wq _ hmm)).2.1
                        rw [if_neg hkm, e5]
                        exact ⟨p1, aF_ag p2 fun i hi => by rw [r10 i (by omega), if_neg fun h9 => hkm h9.1]⟩
                    · show match eCm (gE σ.2.1 x) with
                        | none => (sSet S2 9 x (nI (m + 1))).2 13 x = -1 ∧ (sSet S2 9 x (nI (m + 1))).2 14 x = 0 ∧ (sSet S2 9 x (nI (m + 1))).2 15 x = 0
                        | some c => mCm (sSet S2 9 x (nI (m + 1))) x c
                      have hA2 : ∀ k, 12 ≤ k → k ≤ 30 → (sSet S2 9 x (nI (m + 1))).2 k = S.2 k := fun k x1 x2 => hA k (by omega) (by omega) (by omega)
                      cases hc : eCm (gE σ.2.1 x) with
                      | none =>
                        rw [hc] at dd
                        show _ ∧ _ ∧ _
                        rw [hA2 13 (by decide) (by decide), hA2 14 (by decide) (by decide), hA2 15 (by decide) (by decide)]
                        exact dd
                      | some c =>
                        rw [hc] at dd
                        have wc := (wE1.2 x h1).2.2.2.2.2.2.2.2 c hc
                        refine ⟨by rw [hA2 13 (by decide) (by decide)]; exact dd.1, aF_ag dd.2.1 fun i hi => by rw [hA2 12 (by decide) (by decide)], ?_⟩
                        have dr := dd.2.2
                        unfold mRd mBk mPc at dr ⊢
                        rw [hA2 14 (by decide) (by decide), hA2 15 (by decide) (by decide), hA2 16 (by decide) (by decide), hA2 17 (by decide) (by decide), hA2 18 (by decide) (by decide), hA2 19 (by decide) (by decide), hA2 20 (by decide) (by decide), hA2 21 (by decide) (by decide), hA2 22 (by decide) (by decide), hA2 23 (by decide) (by decide), hA2 24 (by decide) (by decide), hA2 25 (by decide) (by decide), hA2 26 (by decide) (by decide), hA2 27 (by decide) (by decide), hA2 28 (by decide) (by decide), hA2 29 (by decide) (by decide), hA2 30 (by decide) (by decide)]
                        exact dr
                  · rw [if_neg hxe]
                    refine mEn_ag (H.2 x hx2) (wE1.2 x hx2) ?_
                    intro k i y1 y2
                    rw [sS2, if_neg]
                    · by_cases k10 : k = 10
                      · subst k10
                        have y1 : 40 * x ≤ i := y1
                        have y2 : i < 40 * (x + 1) := y2
                        rw [k2, if_neg (by omega), hS1, sS2, if_neg (by simp)]
                      · rw [c2 k k10, hS1, sS2, if_neg]
                        rintro ⟨rfl, rfl⟩
                        have y1 : 4 * x ≤ 4 * e + m := y1
                        have y2 : 4 * e + m < 4 * (x + 1) := y2
                        omega
                    · rintro ⟨rfl, rfl⟩
                      have y1 : 1 * x ≤ i := y1
                      have y2 : i < 1 * (x + 1) := y2
                      omega
              · simp only [gl155_132]
                rw [show s.1 1 = nI σ.1.length by rw [hs.1.1 1 (by simp)]; exact e0, if_pos (nI_le (Nat.le_refl _) (by omega))]
              · constructor
                · have z1 : s.2 0 = S.2 0 := by rw [hs.1.2 0 (by decide), z0]
                  simp only [gl155_132]
                  rw [show s.1 1 = nI σ.1.length by rw [hs.1.1 1 (by simp)]; exact e0]
                  simp (disch := omega) only [lt_2, lt_3, lt_4, lt_5, lt_6, lt_7, lt_8, lt_9, lt_10, lt_12, lt_13, lt_14, lt_15, lt_16, lt_20, lt_24, lt_25, lt_32, lt_39, lt_40, lt_41, lt_45, lt_46, lt_48, lt_57, lt_60, lt_63, lt_64, lt_65, lt_90, lt_91, lt_93, lt_97, lt_120, lt_121, lt_122, lt_123, lt_125, lt_126, lt_130, lt_600, lt_960, lt_999, lt_1000, lt_1091, lt_1200, lt_3000, lt_4000, lt_4001, lt_4002, lt_4800, lt_24000, nI_add, pk_mul, nI_leI, nI_ltI, nI_eq, nI_1, ld_0, st_10, Option.bind_some, z1]
                  rw [if_neg (by omega)]
                · refine ⟨hs.1.tr (df.set (by decide)), fun i => ?_⟩
                  rw [sS2, hs.2 i]
                  by_cases hi : i = 10 * (4 * e + m) + k
                  · rw [if_pos ⟨rfl, hi⟩, if_pos ⟨by omega, by omega⟩, show i - 10 * (4 * e + m) = k by omega]
                  · rw [if_neg fun h9 => hi h9.2]
                    by_cases h9 : 10 * (4 * e + m) ≤ i ∧ i < 10 * (4 * e + m) + k
                    · rw [if_pos h9, if_pos ⟨h9.1, by omega⟩]
                    · rw [if_neg h9, if_neg (by omega)]
        · simp (disch := omega) only [gl155_25, ld_9, Option.bind_some, m1, nI_leI, bZ_0]
          cases b with
          | false => rw [if_pos rfl]; rfl
          | true => rw [if_neg (by simp), if_pos (Nat.le_refl _)]; rfl
        · simp only [gl155_25]
          rw [if_pos (show bZ false = 0 from rfl)]
          rfl
        · obtain ⟨p1, p2⟩ := m2 j hj
          have g1 := g151_s T p2
          simp (disch := omega) only [gl155_25, ld_9, ld_11, Option.bind_some, m1, lt_2, lt_3, lt_4, lt_5, lt_6, lt_7, lt_8, lt_9, lt_10, lt_12, lt_13, lt_14, lt_15, lt_16, lt_20, lt_24, lt_25, lt_32, lt_39, lt_40, lt_41, lt_45, lt_46, lt_48, lt_57, lt_60, lt_63, lt_64, lt_65, lt_90, lt_91, lt_93, lt_97, lt_120, lt_121, lt_122, lt_123, lt_125, lt_126, lt_130, lt_600, lt_960, lt_999, lt_1000, lt_1091, lt_1200, lt_3000, lt_4000, lt_4001, lt_4002, lt_4800, lt_24000, nI_add, pk_mul, nI_leI, nI_ltI, nI_eq, nI_1, p1, g1, bZ_0, gj155_74]
          rw [if_neg (by decide), if_neg (by omega)]
          cases hd : decide ((ePs (gE σ.2.1 e)).getD j [] = σ.1) <;> simp [bZ]
end PMPAR
