section PMMADE
variable {S : mS} {σ : St} {es : List En} {q off : Nat} {l bs : List Nat}
theorem g151_0 (n : Nat) (x2 x3 x5 : Int32) : gl151_18 (n + 1) q x2 x3 0 x5 S = some (0, S) := by
  simp only [gl151_18, gj151_58]
  by_cases h : x3 ≤ x5
  · rw [if_pos h]; rfl
  · rw [if_neg h]; rfl
theorem g151_s (T : mTp S bs) (A : aF S q off (tx l) l.length) : g151 q (nI off) (nI l.length) S = some (bZ (decide (l = bs)), S) := by
  have a1 := A.1
  have a2 := A.2.1
  have t1 : 0 + bs.length ≤ 600 := T.2.1
  unfold g151
  rw [T.1]
  simp (disch := omega) only [nI_eq]
  by_cases hl : l.length = bs.length
  · rw [if_pos hl]
    unfold gj151_13
    have key := l_al (fun n b k => gl151_18 n q (nI off) (nI l.length) (bZ b) (nI k) S) (fun k => tx l k == tx bs k) (fun b => some (bZ b, S)) l.length (fun n b => ?_) (fun n k hk => g151_0 n _ _ _) (fun n k hk => ?_) l.length xFuel 0 true (by omega) (pFuel _ (by omega))
    · refine Eq.trans key ?_
      congr 3
      rw [Bool.true_and, Bool.eq_iff_iff, al_iff, decide_eq_true_eq, tx_ext]
      simp only [beq_iff_eq]
      exact ⟨fun h => ⟨hl, fun k hk => h k (Nat.zero_le _) (by omega)⟩, fun h k _ hk => h.2 k (by omega)⟩
    · simp only [gl151_18, gj151_58]
      rw [if_pos (nI_le (Nat.le_refl _) (by omega)), if_pos bZ_p]
    · simp (disch := omega) only [gl151_18, lt_2, lt_3, lt_4, lt_5, lt_6, lt_7, lt_8, lt_9, lt_10, lt_12, lt_13, lt_14, lt_15, lt_16, lt_20, lt_24, lt_25, lt_32, lt_39, lt_40, lt_41, lt_45, lt_46, lt_48, lt_57, lt_60, lt_63, lt_64, lt_65, lt_90, lt_91, lt_93, lt_97, lt_120, lt_121, lt_122, lt_123, lt_125, lt_126, lt_130, lt_600, lt_960, lt_999, lt_1000, lt_1091, lt_1200, lt_3000, lt_4000, lt_4001, lt_4002, lt_4800, lt_24000, nI_add, pk_mul, nI_leI, nI_ltI, nI_eq, nI_1]
      rw [if_neg (by omega), if_neg (by decide)]
      have d1 := T.2.ld (i := k) (by omega)
      rw [Nat.zero_add] at d1
      rw [A.ld hk, d1]
      have d3 := (T.2.2.2 k (by omega)).1
      have d4 := (A.2.2 k hk).1
      simp (disch := omega) only [Option.bind_some, nI_eq]
      by_cases h9 : tx l k = tx bs k
      · rw [if_pos h9, h9, beq_self_eq_true, gj151_50, nI_1]
        rfl
      · rw [if_neg h9, beq_false_of_ne h9, gj151_50, nI_1]
        rfl
  · rw [if_neg hl]
    unfold gj151_13
    rw [decide_eq_false fun h9 => hl (by rw [h9])]
    exact g151_0 999999 _ _ _
theorem g149_s (H : mEs S es) (w : wE es) (x : Int32) (b : Bool) : g149 x (bZ b) S = some (bZ (match eIx es x with
    | some e => isTy es e == b
    | none => false), S) := by
  have w1 := w.1
  unfold g149
  rw [g148_s H w]
  simp only [Option.bind_some, bZ_0]
  cases he : eIx es x with
  | none => rfl
  | some e =>
    obtain ⟨h1, rfl⟩ := eIx_lt he
    obtain ⟨m1, _⟩ := H.2 e h1
    rw [if_neg (by simp), ld_3 (by omega), m1.1]
    simp only [Option.bind_some, bZ_eq]
    show _ = some (bZ (isTy es e == b), S)
    unfold isTy
    cases (eOw (gE es e)).isNone <;> cases b <;> rfl
/-- the tape is a NAME -/
theorem g150_s (T : mTp S bs) (big : Bool) : g150 (bZ big) S = some (bZ (nmWh bs big), S) := by
  have t1 : 0 + bs.length ≤ 600 := T.2.1
  have d : ∀ k, k < bs.length → sLd S 0 (nI k) = some (nI (tx bs k)) ∧ tx bs k < 256 := fun k hk => by
    have d1 := T.2.ld (i := k) hk
    rw [Nat.zero_add] at d1
    exact ⟨d1, (T.2.2.2 k hk).1⟩
  have key : ∀ b : Bool, gj150_49 (bZ big) (bZ b) S = some (bZ (b && decide (sc (fun j => !isNB (tx bs j)) 0 bs.length = bs.length)), S) := by
    intro b
    unfold gj150_49
    have k1 := l_al (fun n b k => gl150_52 n (bZ big) (bZ b) (nI k) S) (fun k => isNB (tx bs k)) (fun b => some (bZ b, S)) bs.length (fun n b => ?_) (fun n k hk => ?_) (fun n k hk => ?_) bs.length xFuel 0 b (by omega) (pFuel _ (by omega))
    · refine Eq.trans k1 ?_
      congr 3
      congr 1
      rw [Bool.eq_iff_iff, al_iff, decide_eq_true_eq]
      constructor
      · intro h
        exact sc_un _ (Nat.zero_le _) (by omega) (fun j _ hj => by rw [h j (by omega) (by omega)]; rfl) (fun h9 => by omega)
      · intro h j _ hj
        have := sc_no (fun j => !isNB (tx bs j)) bs.length 0 j (by omega) (by omega)
        simpa using this
    · simp only [gl150_52, T.1, gj150_112]
      rw [if_pos (nI_le (Nat.le_refl _) (by omega)), if_pos bZ_p]
    · simp (disch := omega) only [gl150_52, T.1, nI_leI, gj150_112]
      rw [if_neg (by omega), if_pos (show bZ false = 0 from rfl)]
      rfl
    · have c2 := (d k hk).2
      simp (disch := omega) only [gl150_52, T.1, nI_leI, (d k hk).1, Option.bind_some, g145_s, g146_s, g147_s, bZ_0, gj150_100, gj150_105, nI_1, isNB]
      rw [if_neg (by omega), if_neg (by decide)]
      cases isBg (tx bs k) <;> cases isSm (tx bs k) <;> cases isFg (tx bs k) <;> rfl
  unfold g150 nmWh nmOK
  rw [T.1, g141_s, show (1 : Int32) = nI 1 from rfl]
  simp (disch := omega) only [Option.bind_some, bZ_0, lt_10, nI_leI]
  rw [Nat.zero_add]
  by_cases h0 : 1 ≤ bs.length ∧ bs.length ≤ 10
  · rw [decide_eq_true h0, if_neg (by simp), decide_eq_true h0.1, decide_eq_true h0.2]
    obtain ⟨d1, d2⟩ := d 0 (by omega)
    rw [show (0 : Int32) = nI 0 from rfl, d1]
    simp (disch := omega) only [Option.bind_some, g145_s, g146_s]
    cases big with
    | true =>
      rw [if_neg (by decide)]
      cases hb : isBg (tx bs 0) with
      | true =>
        rw [if_neg (by decide)]
        refine Eq.trans (key true) ?_
        simp
      | false =>
        rw [if_pos (by rfl)]
        refine Eq.trans (key false) ?_
        simp
    | false =>
      rw [if_pos rfl]
      cases hb : isSm (tx bs 0) with
      | true =>
        rw [if_neg (by decide)]
        refine Eq.trans (key true) ?_
        simp
      | false =>
        rw [if_pos (by rfl)]
        refine Eq.trans (key false) ?_
        simp
  · rw [decide_eq_false h0, if_pos rfl]
    refine Eq.trans (key false) ?_
    have : (decide (1 ≤ bs.length) && decide (bs.length ≤ 10)) = false := by
      simp
      omega
    rw [this]
    rfl
theorem gE_app {n : En} {e : Nat} : gE (es ++ [n]) e = if e = es.length then n else gE es e := by
  unfold gE
  rw [List.getD_eq_getElem?_getD, List.getD_eq_getElem?_getD]
  by_cases h : e = es.length
  · subst h
    simp
  · rw [if_neg h]
    rcases Nat.lt_or_gt_of_ne h with h | h
    · rw [List.getElem?_append_left h]
    · rw [List.getElem?_eq_none (by simp; omega), List.getElem?_eq_none (by omega)]
theorem gE_set {n : En} {e k : Nat} (hk : k < es.length) : gE (es.set k n) e = if e = k then n else gE es e := by
  unfold gE
  rw [List.getD_eq_getElem?_getD, List.getD_eq_getElem?_getD, List.getElem?_set]
  by_cases h : e = k
  · subst h
    simp [hk]
  · rw [if_neg h, if_neg fun h9 => h h9.symm]
/-- a new entry -/
theorem g152_s (T : mTp S bs) (H : mEs S es) (w : wE es) (hn : es.length < 40) (hb : bs.length ≤ 10) (ow pa : Option Nat) (gv : Bool) (ht : Bool) (hty : ht = ow.isNone) : ∃ S', g152 (bZ ht) (oI ow) (oI pa) (bZ gv) S = some (nI es.length, S') ∧ mEs S' (es ++ [(ow, pa, gv, bs, [], none)]) ∧ df [2] [3, 4, 5, 6, 9, 13, 14, 15, 8, 7] S S' := by
  have w1 := w.1
  have h1 := H.1
  have d : ∀ k, k < bs.length → tx bs k < 256 ∧ S.2 0 k = nI (tx bs k) := fun k hk => by
    have := T.2.2.2 k hk
    rw [Nat.zero_add] at this
    exact this
  unfold g152
  rw [h1]
  simp (disch := omega) only [Option.bind_some, st_3, st_4, st_5, st_6, st_9, st_13, st_14, st_15, st_8, bZ_n]
  obtain ⟨S1, hS1⟩ : ∃ S1, S1 = sSet (sSet (sSet (sSet (sSet (sSet (sSet (sSet (sSet (sPut S 2 (nI es.length + 1)) 3 es.length (bZ ht)) 4 es.length (oI ow)) 5 es.length (oI pa)) 6 es.length (bZ gv)) 9 es.length 0) 13 es.length (-1)) 14 es.length 0) 15 es.length 0) 8 es.length (nI bs.length) := ⟨_, rfl⟩
  have D1 : df [2] [3, 4, 5, 6, 9, 13, 14, 15, 8, 7] S S1 := by
    rw [hS1]
    exact ((((((((((df.put (by decide)).tr (df.set (by decide))).tr (df.set (by decide))).tr (df.set (by decide))).tr (df.set (by decide))).tr (df.set (by decide))).tr (df.set (by decide))).tr (df.set (by decide))).tr (df.set (by decide))).tr (df.set (by decide)))
  have e0 : S.1 1 = nI bs.length := T.1
  have eS : (sSet (sSet (sSet (sSet (sSet (sSet (sSet (sSet (sPut S 2 (nI es.length + 1)) 3 es.length (bZ ht)) 4 es.length (oI ow)) 5 es.length (oI pa)) 6 es.length (bZ gv)) 9 es.length 0) 13 es.length (-1)) 14 es.length 0) 15 es.length 0).1 1 = nI bs.length := e0
  rw [eS, ← hS1]
  have key := l_fl (fun n k s => gl152_95 n (bZ ht) (oI ow) (oI pa) (bZ gv) (nI es.length) (nI k) s) (fun k s => sSet s 7 (10 * es.length + k) (S.2 0 k)) (fun s => some (nI es.length, s)) (fun k s => df [] [7] S1 s ∧ ∀ i, s.2 7 i = if 10 * es.length ≤ i ∧ i < 10 * es.length + k then S.2 0 (i - 10 * es.length) else S1.2 7 i) bs.length (fun n s hs => ?_) (fun n k s hk hs => ?_) bs.length xFuel 0 S1 (by omega) (pFuel _ (by omega)) ⟨df.rfl', fun i => by rw [if_neg (by omega)]⟩
  · refine ⟨_, key.1, ?_, D1.tr ⟨fun j hj => key.2.1.1 j (by simp), fun k hk => key.2.1.2 k fun h9 => hk (by simp at h9; simp [h9])⟩⟩
    obtain ⟨k1, k2⟩ := key.2
    generalize fl (fun k s => sSet s 7 (10 * es.length + k) (S.2 0 k)) 0 bs.length S1 = S2 at k1 k2
    have c1 : ∀ j, S2.1 j = S1.1 j := fun j => k1.1 j (by simp)
    have c2 : ∀ j, j ≠ 7 → S2.2 j = S1.2 j := fun j hj => k1.2 j (by simpa using hj)
    have f7 : ∀ i, S1.2 7 i = S.2 7 i := fun i => by rw [hS1]; rfl
    refine ⟨?_, fun e he => ?_⟩
    · rw [c1, hS1]
      simp [sP1, sS1, nI_1]
    · rw [gE_app]
      have he : e < es.length + 1 := by simpa using he
      by_cases h : e = es.length
      · subst h
        rw [if_pos rfl]
        refine ⟨⟨?_, ?_, ?_, ?_⟩, ⟨?_, ?_⟩, ⟨?_, fun k hk => absurd hk (Nat.not_lt_zero _)⟩, ?_, ?_, ?_⟩
        · rw [c2 3 (by decide), hS1]
          simp [sS2, eOw, hty]
        · rw [c2 4 (by decide), hS1]
          simp [sS2, eOw]
        · rw [c2 5 (by decide), hS1]
          simp [sS2, ePa]
        · rw [c2 6 (by decide), hS1]
          simp [sS2, eGv]
        · rw [c2 8 (by decide), hS1]
          simp [sS2, eNm]
        · refine ⟨by show 10 * es.length + bs.length ≤ 400; omega, by show 400 < 30000; decide, fun i hi => ?_⟩
          have hi : i < bs.length := hi
          show tx bs i < 256 ∧ _ = nI (tx bs i)
          rw [k2, if_pos ⟨by omega, by omega⟩, show 10 * es.length + i - 10 * es.length = i by omega]
          exact d i hi
        · rw [c2 9 (by decide), hS1]
          simp [sS2, ePs, nI_0]
        · rw [c2 13 (by decide), hS1]
          simp [sS2]
        · rw [c2 14 (by decide), hS1]
          simp [sS2]
        · rw [c2 15 (by decide), hS1]
          simp [sS2]
      · rw [if_neg h]
        refine mEn_ag (H.2 e (by omega)) (w.2 e (by omega)) ?_
        have a1 : ag e S S1 := by
          rw [hS1]
          refine ((((((((ag.put.tr (ag.set ?_)).tr (ag.set ?_)).tr (ag.set ?_)).tr (ag.set ?_)).tr (ag.set ?_)).tr (ag.set ?_)).tr (ag.set ?_)).tr (ag.set ?_)).tr (ag.set ?_)
          all_goals (simp [uE]; omega)
        refine a1.tr fun k i h1 h2 => ?_
        by_cases h7 : k = 7
        · subst h7
          rw [k2, if_neg]
          have h2 : i < 10 * (e + 1) := h2
          omega
        · rw [c2 k h7]
  · simp only [gl152_95]
    rw [show s.1 1 = nI bs.length by rw [hs.1.1 1 (by simp), D1.1 1 (by decide)]; exact e0, if_pos (nI_le (Nat.le_refl _) (by omega))]
  · constructor
    · have z0 : s.2 0 = S.2 0 := by rw [hs.1.2 0 (by decide), D1.2 0 (by decide)]
      simp only [gl152_95]
      rw [show s.1 1 = nI bs.length by rw [hs.1.1 1 (by simp), D1.1 1 (by decide)]; exact e0]
      simp (disch := omega) only [lt_2, lt_3, lt_4, lt_5, lt_6, lt_7, lt_8, lt_9, lt_10, lt_12, lt_13, lt_14, lt_15, lt_16, lt_20, lt_24, lt_25, lt_32, lt_39, lt_40, lt_41, lt_45, lt_46, lt_48, lt_57, lt_60, lt_63, lt_64, lt_65, lt_90, lt_91, lt_93, lt_97, lt_120, lt_121, lt_122, lt_123, lt_125, lt_126, lt_130, lt_600, lt_960, lt_999, lt_1000, lt_1091, lt_1200, lt_3000, lt_4000, lt_4001, lt_4002, lt_4800, lt_24000, nI_add, pk_mul, nI_leI, nI_ltI, nI_eq, nI_1, ld_0, st_7, Option.bind_some, z0]
      rw [if_neg (by omega)]
    · refine ⟨hs.1.tr (df.set (by decide)), fun i => ?_⟩
      rw [sS2, hs.2 i]
      by_cases hi : i = 10 * es.length + k
      · rw [if_pos ⟨rfl, hi⟩, if_pos ⟨by omega, by omega⟩, show i - 10 * es.length = k by omega]
      · rw [if_neg fun h9 => hi h9.2]
        by_cases h9 : 10 * es.length ≤ i ∧ i < 10 * es.length + k
        · rw [if_pos h9, if_pos ⟨h9.1, by omega⟩]
        · rw [if_neg h9, if_neg (by omega)]
theorem fE_al (o : Option Nat) (nm : List Nat) : (fE es o nm = none) = (al (fun j => !(decide (eOw (gE es j) = o) && decide (eNm (gE es j) = nm))) 0 es.length = true) := by
  rw [fE_sc]
  have a := sc_ge (fun j => decide (eOw (gE es j) = o) && decide (eNm (gE es j) = nm)) es.length 0
  have b := sc_no (fun j => decide (eOw (gE es j) = o) && decide (eNm (gE es j) = nm)) es.length 0
  have c := sc_at (fun j => decide (eOw (gE es j) = o) && decide (eNm (gE es j) = nm)) es.length 0
  rw [al_iff]
  generalize sc (fun j => decide (eOw (gE es j) = o) && decide (eNm (gE es j) = nm)) 0 es.length = d at a b c
  by_cases h : d < es.length
  · rw [if_pos h]
    have c1 := c (by omega)
    refine propext ⟨(fun h9 => by cases h9), fun h9 => ?_⟩
    have := h9 d (Nat.zero_le _) (by omega)
    rw [c1] at this
    cases this
  · rw [if_neg h]
    refine propext ⟨fun _ j hj1 hj2 => ?_, fun _ => rfl⟩
    rw [b j hj1 (by omega)]
    rfl
/-- the tape goes; entries may have come -/
theorem MR_es {S' : mS} {es' : List En} (M : MR S σ) (D : df [1, 2] [3, 4, 5, 6, 7, 8, 9, 10, 11, 12, 13, 14, 15, 16, 17, 18, 19, 20, 21, 22, 23, 24, 25, 26, 27, 28, 29, 30] S S') (T : mTp S' []) (E : mEs S' es') : MR S' ([], es', σ.2.2) := ⟨T, E, by rw [D.1 33 (by decide)]; exact M.2.2.1, mPg_df D (by decide) M.2.2.2.1, mNt_df D (by decide) M.2.2.2.2⟩
theorem df.mono {J K J2 K2 : List Nat} {S S' : mS} (D : df J K S S') (h1 : ∀ j ∈ J, j ∈ J2) (h2 : ∀ k ∈ K, k ∈ K2) : df J2 K2 S S' := ⟨fun j hj => D.1 j fun h9 => hj (h1 j h9), fun k hk => D.2 k fun h9 => hk (h2 k h9)⟩
theorem mEs_put {k : Nat} {v : Int32} (hk : k ≠ 2) (H : mEs S es) : mEs (sPut S k v) es := ⟨by rw [sP1, if_neg (Ne.symm hk)]; exact H.1, H.2⟩
/-- type -/
theorem m_type (M : MR S σ) (w : wSt σ) (a : Nat → Int32) : ∃ S', g153 (a 1) S = some ((stp σ 2 a).1, S') ∧ MR S' (stp σ 2 a).2 := by
  have T := M.1
  have H := M.2.1
  have wE1 := w.2.1
  have w1 := wE1.1
  have hT : MR (sPut S 1 0) ([], σ.2) := MR_tape M w (df.put (by decide)) mTp_0
  show ∃ S', _ = some ((sType σ (a 1)).1, S') ∧ MR S' (sType σ (a 1)).2
  have loop : ∀ b : Bool, gj153_27 (a 1) (bZ b) S = gj153_84 (a 1) (bZ (b && decide (fE σ.2.1 none σ.1 = none))) (nI 0) S := by
    intro b
    unfold gj153_27
    have key := l_al (fun n b j => gl153_30 n (a 1) (bZ b) (nI j) S) (fun j => !(decide (eOw (gE σ.2.1 j) = none) && decide (eNm (gE σ.2.1 j) = σ.1))) (fun b => gj153_84 (a 1) (bZ b) (nI 0) S) σ.2.1.length (fun n b => ?_) (fun n j hj => ?_) (fun n j hj => ?_) σ.2.1.length xFuel 0 b (by omega) (pFuel _ (by omega))
    · refine Eq.trans key ?_
      congr 2
      congr 1
      rw [Bool.eq_iff_iff, decide_eq_true_eq, fE_al]
    · simp only [gl153_30, H.1]
      rw [if_pos (nI_le (Nat.le_refl _) (by omega))]
      rfl
    · simp (disch := omega) only [gl153_30, H.1, nI_leI]
      rw [if_neg (by omega), if_pos (show bZ false = 0 from rfl)]
      rfl
    · obtain ⟨m1, ⟨m2, m3⟩, _⟩ := H.2 j hj
      have g1 := g151_s T m3
      simp (disch := omega) only [gl153_30, H.1, nI_leI, ld_3, ld_8, Option.bind_some, m1.1, m2, lt_2, lt_3, lt_4, lt_5, lt_6, lt_7, lt_8, lt_9, lt_10, lt_12, lt_13, lt_14, lt_15, lt_16, lt_20, lt_24, lt_25, lt_32, lt_39, lt_40, lt_41, lt_45, lt_46, lt_48, lt_57, lt_60, lt_63, lt_64, lt_65, lt_90, lt_91, lt_93, lt_97, lt_120, lt_121, lt_122, lt_123, lt_125, lt_126, lt_130, lt_600, lt_960, lt_999, lt_1000, lt_1091, lt_1200, lt_3000, lt_4000, lt_4001, lt_4002, lt_4800, lt_24000, pk_mul, g1, bZ_0, gj153_72, gj153_77, nI_1]
      rw [if_neg (by omega), if_neg (by decide)]
      cases ho : eOw (gE σ.2.1 j) with
      | none => cases hd : decide (eNm (gE σ.2.1 j) = σ.1) <;> simp [bZ]
      | some o => simp [bZ]
  have e1 : g153 (a 1) S = gj153_84 (a 1) (bZ ((decide (a 1 = -1) || (match eIx σ.2.1 (a 1) with
    | some e => isTy σ.2.1 e == true
    | none => false)) && nmWh σ.1 true && decide (fE σ.2.1 none σ.1 = none))) (nI 0) S := by
    have f1 : gj153_14 (a 1) S = gj153_84 (a 1) (bZ (nmWh σ.1 true && decide (fE σ.2.1 none σ.1 = none))) (nI 0) S := by
      unfold gj153_14
      rw [show (1 : Int32) = bZ true from rfl, g150_s T true]
      simp only [Option.bind_some, bZ_0]
      cases nmWh σ.1 true with
      | true => exact loop true
      | false => exact loop false
    unfold g153
    by_cases h0 : a 1 = -1
    · rw [if_pos h0, f1, decide_eq_true h0]
      simp
    · have gq : g149 (a 1) 1 S = _ := g149_s H wE1 (a 1) true
      rw [if_neg h0, gq, decide_eq_false h0]
      simp only [Option.bind_some, bZ_0, Bool.false_or]
      cases hm : (match eIx σ.2.1 (a 1) with
        | some e => isTy σ.2.1 e == true
        | none => false) with
      | true =>
        rw [if_neg (by simp), f1]
        simp
      | false => exact loop false
  rw [e1]
  unfold sType
  have e2 : ((decide (a 1 = -1) || (match eIx σ.2.1 (a 1) with
    | some e => isTy σ.2.1 e == true
    | none => false)) && nmWh σ.1 true && decide (fE σ.2.1 none σ.1 = none)) = true ↔ (a 1 = -1 ∨ ∃ e, eIx σ.2.1 (a 1) = some e ∧ isTy σ.2.1 e = true) ∧ nmWh σ.1 true = true ∧ fE σ.2.1 none σ.1 = none := by
    rw [Bool.and_eq_true, Bool.and_eq_true, Bool.or_eq_true, decide_eq_true_eq, decide_eq_true_eq, and_assoc]
    cases eIx σ.2.1 (a 1) with
    | none => simp
    | some e => simp
  by_cases hP : (a 1 = -1 ∨ ∃ e, eIx σ.2.1 (a 1) = some e ∧ isTy σ.2.1 e = true) ∧ nmWh σ.1 true = true ∧ fE σ.2.1 none σ.1 = none
  · rw [e2.mpr hP]
    dsimp only
    rw [if_pos hP]
    unfold gj153_84 gj153_114
    simp only [Option.bind_some, bZ_0, H.1, lt_40]
    simp (disch := omega) only [nI_eq]
    rw [if_neg (by simp)]
    by_cases h40 : σ.2.1.length = 40
    · rw [if_pos h40, if_pos h40]
      exact ⟨_, rfl, hT⟩
    · rw [if_neg h40, if_neg h40]
      have hb : σ.1.length ≤ 10 := by
        have := hP.2.1
        unfold nmWh at this
        rw [Bool.and_eq_true] at this
        exact (nmOK_NB this.1).2.1
      have ho : a 1 = oI (eIx σ.2.1 (a 1)) := by
        rcases hP.1 with h9 | ⟨e, h9, _⟩
        · have : eIx σ.2.1 (a 1) = none := by
            unfold eIx
            rw [if_neg fun h8 => h8.1 (by rw [h9]; decide)]
          rw [this]
          exact h9
        · rw [h9]
          exact (eIx_lt h9).2
      obtain ⟨S2, e4, E2, D2⟩ := g152_s T H wE1 (by omega) hb none (eIx σ.2.1 (a 1)) false true rfl
      have e3 : g152 1 (-1) (a 1) 0 S = some (nI σ.2.1.length, S2) := by
        rw [← ho] at e4
        exact e4
      rw [e3]
      refine ⟨_, rfl, ?_⟩
      exact MR_es M ((D2.mono (by decide) (by decide)).tr (df.put (by decide))) mTp_0 (mEs_put (by decide) E2)
  · rw [Bool.eq_false_iff.mpr fun h9 => hP (e2.mp h9)]
    dsimp only
    rw [if_neg hP]
    exact ⟨_, rfl, hT⟩
/-- member -/
theorem m_member (M : MR S σ) (w : wSt σ) (a : Nat → Int32) {b2 : Bool} (hb2 : b2 = decide (a 2 ≠ 0)) : ∃ S', g154 (a 1) (bZ b2) S = some ((stp σ 3 a).1, S') ∧ MR S' (stp σ 3 a).2 := by
  have T := M.1
  have H := M.2.1
  have wE1 := w.2.1
  have w1 := wE1.1
  have hT : MR (sPut S 1 0) ([], σ.2) := MR_tape M w (df.put (by decide)) mTp_0
  show ∃ S', _ = some ((sMem σ (a 1) (decide (a 2 ≠ 0))).1, S') ∧ MR S' (sMem σ (a 1) (decide (a 2 ≠ 0))).2
  rw [← hb2]
  have ff : ∀ n x3 x4, gl154_26 (n + 1) (a 1) (bZ b2) (bZ false) x4 S = some (-1, sPut S 1 0) ∧ gj154_95 (a 1) (bZ b2) (bZ false) x3 S = some (-1, sPut S 1 0) := by
    intro n x3 x4
    have r : ∀ x, gj154_95 (a 1) (bZ b2) (bZ false) x S = some (-1, sPut S 1 0) := fun x => rfl
    refine ⟨?_, r x3⟩
    simp only [gl154_26]
    by_cases h : S.1 2 ≤ x4
    · rw [if_pos h, r]
    · rw [if_neg h, if_pos (show bZ false = 0 from rfl), r]
  unfold g154
  have gq : g149 (a 1) 1 S = _ := g149_s H wE1 (a 1) true
  have gr : g150 0 S = _ := g150_s T false
  rw [gq]
  simp only [Option.bind_some, gr, bZ_0]
  unfold sMem
  cases he : eIx σ.2.1 (a 1) with
  | none => exact ⟨_, (ff 999999 0 0).1, hT⟩
  | some e =>
    obtain ⟨h1, hx⟩ := eIx_lt he
    dsimp only
    rw [hx] at ff ⊢
    have g0 : ∀ x, gl154_26 xFuel (nI e) (bZ b2) (bZ false) x S = some (-1, sPut S 1 0) := fun x => (ff 999999 0 x).1
    rcases Bool.eq_false_or_eq_true (isTy σ.2.1 e) with hty | hty
    rotate_left
    · rw [if_pos (by rw [hty]; rfl), if_neg fun h9 => by rw [hty] at h9; cases h9.1]
      exact ⟨_, g0 0, hT⟩
    · rw [if_neg (by rw [hty]; simp)]
      rcases Bool.eq_false_or_eq_true (nmWh σ.1 false) with hnm | hnm
      rotate_left
      · rw [if_pos hnm, if_neg fun h9 => by rw [hnm] at h9; cases h9.2.1]
        exact ⟨_, g0 0, hT⟩
      · rw [if_neg (by rw [hnm]; simp)]
        unfold gj154_22
        have key := l_al (fun n b j => gl154_26 n (nI e) (bZ b2) (bZ b) (nI j) S) (fun j => !(decide (eOw (gE σ.2.1 j) = some e) && decide (eNm (gE σ.2.1 j) = σ.1))) (fun b => gj154_95 (nI e) (bZ b2) (bZ b) (nI 0) S) σ.2.1.length (fun n b => ?_) (fun n j hj => ?_) (fun n j hj => ?_) σ.2.1.length xFuel 0 true (by omega) (pFuel _ (by omega))
        · rw [show gl154_26 xFuel (nI e) (bZ b2) 1 0 S = _ from key, Bool.true_and]
          have q := fE_al (es := σ.2.1) (some e) σ.1
          cases hal : al (fun j => !(decide (eOw (gE σ.2.1 j) = some e) && decide (eNm (gE σ.2.1 j) = σ.1))) 0 σ.2.1.length with
          | false =>
            rw [hal] at q
            rw [if_neg fun h9 => by have := h9.2.2; rw [q] at this; cases this]
            exact ⟨_, (ff 0 (nI 0) 0).2, hT⟩
          | true =>
            rw [hal] at q
            rw [if_pos ⟨hty, hnm, by rw [q]⟩]
            unfold gj154_95 gj154_125
            simp only [Option.bind_some, bZ_0, H.1, lt_40]
            simp (disch := omega) only [nI_eq]
            rw [if_neg (by simp)]
            by_cases h40 : σ.2.1.length = 40
            · rw [if_pos h40, if_pos h40]
              exact ⟨_, rfl, hT⟩
            · rw [if_neg h40, if_neg h40]
              have hb : σ.1.length ≤ 10 := by
                have := hnm
                unfold nmWh at this
                rw [Bool.and_eq_true] at this
                exact (nmOK_NB this.1).2.1
              obtain ⟨S2, e4, E2, D2⟩ := g152_s T H wE1 (by omega) hb (some e) none b2 false rfl
              have e3 : g152 0 (nI e) (-1) (bZ b2) S = some (nI σ.2.1.length, S2) := e4
              rw [e3]
              refine ⟨_, rfl, ?_⟩
              exact MR_es M ((D2.mono (by decide) (by decide)).tr (df.put (by decide))) mTp_0 (mEs_put (by decide) E2)
        · simp only [gl154_26, H.1]
          rw [if_pos (nI_le (Nat.le_refl _) (by omega))]
          rfl
        · simp (disch := omega) only [gl154_26, H.1, nI_leI]
          rw [if_neg (by omega), if_pos (show bZ false = 0 from rfl)]
          rfl
        · obtain ⟨m1, ⟨m2, m3⟩, _⟩ := H.2 j hj
          have g1 := g151_s T m3
          have o1 := oI_eq (t := e) (mEn.oLt wE1 hj).1 (by omega)
          simp (disch := omega) only [gl154_26, H.1, nI_leI, ld_3, ld_4, ld_8, Option.bind_some, m1.1, m1.2.1, o1, m2, lt_2, lt_3, lt_4, lt_5, lt_6, lt_7, lt_8, lt_9, lt_10, lt_12, lt_13, lt_14, lt_15, lt_16, lt_20, lt_24, lt_25, lt_32, lt_39, lt_40, lt_41, lt_45, lt_46, lt_48, lt_57, lt_60, lt_63, lt_64, lt_65, lt_90, lt_91, lt_93, lt_97, lt_120, lt_121, lt_122, lt_123, lt_125, lt_126, lt_130, lt_600, lt_960, lt_999, lt_1000, lt_1091, lt_1200, lt_3000, lt_4000, lt_4001, lt_4002, lt_4800, lt_24000, pk_mul, g1, bZ_0, gj154_83, gj154_88, nI_1]
          rw [if_neg (by omega), if_neg (by decide)]
          cases ho : eOw (gE σ.2.1 j) with
          | none => simp [bZ]
          | some o =>
            by_cases hoe : o = e
            · subst hoe
              cases hd : decide (eNm (gE σ.2.1 j) = σ.1) <;> simp [bZ]
            · simp [bZ, hoe]
end PMMADE
