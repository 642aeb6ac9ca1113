section PMDR
variable {S : mS} {by' st : List Nat} {lg : Nat} {es : List En}
/-- the draft of a page: bytes, starts of lines, the longest -/
def dS (S : mS) (by' st : List Nat) (lg : Nat) : Prop := (S.1 45 = nI by'.length ∧ ∀ i, i < by'.length → i < 4000 → S.2 44 i = nI (by'.getD i 0)) ∧ (S.1 47 = nI st.length ∧ ∀ i, i < st.length → i < 4001 → S.2 46 i = nI (st.getD i 0)) ∧ (by'.length ≤ 4000 → S.1 49 = nI lg)
theorem gD_app {α : Type} {l : List α} {c d : α} {i : Nat} (hi : i < l.length + 1) : (l ++ [c]).getD i d = if i = l.length then c else l.getD i d := by
  simp only [List.getD_eq_getElem?_getD]
  by_cases h : i = l.length
  · rw [if_pos h, h]
    simp
  · rw [if_neg h, List.getElem?_append_left (by omega)]
theorem g195_s (D : dS S by' st lg) (hb : by'.length < 2 ^ 30) (c : Nat) : ∃ S', g195 (nI c) S = some S' ∧ dS S' (by' ++ [c]) st lg ∧ df [45] [44] S S' := by
  obtain ⟨⟨d1, d2⟩, ⟨d3, d4⟩, d5⟩ := D
  have l1 : (by' ++ [c]).length = by'.length + 1 := by simp
  unfold g195 gj195_20
  rw [d1]
  simp only [bS]
  by_cases h : 4000 ≤ by'.length
  · rw [if_pos (show (4000 : Int32) ≤ _ from nI_le (a := 4000) h (by omega)), nI_1]
    refine ⟨_, rfl, ⟨⟨by rw [l1]; rfl, fun i hi h4 => ?_⟩, ⟨d3, d4⟩, fun h9 => ?_⟩, df.put (by decide)⟩
    · rw [sP_2, gD_app (by omega), if_neg (by omega)]
      exact d2 i (by omega) h4
    · rw [l1] at h9
      omega
  · rw [if_neg (show ¬ (4000 : Int32) ≤ _ from nI_ge (b := 4000) (by omega) (by decide)), st_44 (by omega)]
    simp only [bS]
    rw [show (sSet S 44 by'.length (nI c)).1 45 = nI by'.length from d1, nI_1]
    refine ⟨_, rfl, ⟨⟨by rw [l1]; rfl, fun i hi h4 => ?_⟩, ⟨d3, fun i hi h4 => ?_⟩, fun h9 => ?_⟩, (df.set (by decide)).tr (df.put (by decide))⟩
    · rw [l1] at hi
      rw [sP_2, gD_app (by omega)]
      by_cases h5 : i = by'.length
      · rw [if_pos h5, h5, sS_eq]
      · rw [if_neg h5, sS_ne (by omega)]
        exact d2 i (by omega) h4
    · rw [sP_2, sS_ne (by omega)]
      exact d4 i hi h4
    · rw [l1] at h9
      exact d5 (by omega)
theorem g197_s (D : dS S by' st lg) (hs : st.length < 2 ^ 30) : ∃ S', g197 S = some S' ∧ dS S' by' (st ++ [by'.length]) lg ∧ df [47] [46] S S' := by
  obtain ⟨⟨d1, d2⟩, ⟨d3, d4⟩, d5⟩ := D
  have l1 : (st ++ [by'.length]).length = st.length + 1 := by simp
  unfold g197 gj197_23
  rw [d3, d1]
  simp only [bS]
  by_cases h : 4001 ≤ st.length
  · rw [if_pos (show (4001 : Int32) ≤ _ from nI_le (a := 4001) h (by omega)), nI_1]
    refine ⟨_, rfl, ⟨⟨d1, d2⟩, ⟨by rw [l1]; rfl, fun i hi h4 => ?_⟩, d5⟩, df.put (by decide)⟩
    rw [sP_2, gD_app (by omega), if_neg (by omega)]
    exact d4 i (by omega) h4
  · rw [if_neg (show ¬ (4001 : Int32) ≤ _ from nI_ge (b := 4001) (by omega) (by decide)), st_46 (by omega)]
    simp only [bS]
    rw [show (sSet S 46 st.length (nI by'.length)).1 47 = nI st.length from d3, nI_1]
    refine ⟨_, rfl, ⟨⟨d1, fun i hi h4 => ?_⟩, ⟨by rw [l1]; rfl, fun i hi h4 => ?_⟩, d5⟩, (df.set (by decide)).tr (df.put (by decide))⟩
    · rw [sP_2, sS_ne (by omega)]
      exact d2 i hi h4
    · rw [l1] at hi
      rw [sP_2, gD_app (by omega)]
      by_cases h5 : i = st.length
      · rw [if_pos h5, h5, sS_eq]
      · rw [if_neg h5, sS_ne (by omega)]
        exact d4 i (by omega) h4
/-- the end of a line whose start is a -/
theorem g198_s {a : Nat} (D : dS S by' (st ++ [a]) lg) (hb : by'.length < 2 ^ 30) (hs : st.length ≤ by'.length) (ha : a ≤ by'.length) (hl : lg ≤ by'.length) : ∃ S', g198 S = some S' ∧ dS S' (by' ++ [10]) (st ++ [a]) (if lg < by'.length - a then by'.length - a else lg) ∧ df [45, 49] [44] S S' := by
  obtain ⟨⟨d1, d2⟩, ⟨d3, d4⟩, d5⟩ := id D
  have l1 : (st ++ [a]).length = st.length + 1 := by simp
  rw [l1] at d3 d4
  have fin : ∀ v : Int32, (by'.length ≤ 3999 → v = nI (if lg < by'.length - a then by'.length - a else lg)) → ∀ s0, ∃ S', gj198_56 s0 v S = some S' ∧ dS S' (by' ++ [10]) (st ++ [a]) (if lg < by'.length - a then by'.length - a else lg) ∧ df [45, 49] [44] S S' := fun v hv s0 => by
    unfold gj198_56
    simp only [bS]
    have D2 : dS (sPut S 49 v) by' (st ++ [a]) (if by'.length ≤ 3999 then (if lg < by'.length - a then by'.length - a else lg) else 0) ∨ 3999 < by'.length := by
      by_cases h : by'.length ≤ 3999
      · left
        rw [if_pos h]
        refine ⟨⟨d1, d2⟩, ⟨by rw [l1]; exact d3, by rw [l1]; exact d4⟩, fun _ => hv h⟩
      · right
        omega
    rcases D2 with D2 | h
    · by_cases h : by'.length ≤ 3999
      · rw [if_pos h] at D2
        obtain ⟨T, t1, t2, t3⟩ := g195_s D2 hb 10
        rw [show (10 : Int32) = nI 10 from rfl, t1]
        exact ⟨T, rfl, t2, (df.put (by decide)).tr (t3.mono (by decide) (by decide))⟩
      · rw [if_neg h] at D2
        obtain ⟨T, t1, t2, t3⟩ := g195_s D2 hb 10
        rw [show (10 : Int32) = nI 10 from rfl, t1]
        refine ⟨T, rfl, ⟨t2.1, t2.2.1, fun h9 => ?_⟩, (df.put (by decide)).tr (t3.mono (by decide) (by decide))⟩
        simp at h9
        omega
    · unfold g195 gj195_20
      rw [show (sPut S 49 v).1 45 = nI by'.length from d1]
      simp only [bS]
      by_cases h40 : 4000 ≤ by'.length
      · rw [if_pos (show (4000 : Int32) ≤ _ from nI_le (a := 4000) h40 (by omega)), nI_1]
        refine ⟨_, rfl, ⟨⟨by simp; rfl, fun i hi h4 => ?_⟩, ⟨by rw [l1]; exact d3, by rw [l1]; exact d4⟩, fun h9 => ?_⟩, (df.put (by decide)).tr (df.put (by decide))⟩
        · rw [gD_app (by omega), if_neg (by omega)]
          exact d2 i (by omega) h4
        · simp at h9
          omega
      · omega
  unfold g198 gj198_28
  rw [d3, d1]
  by_cases h : 4002 ≤ st.length + 1
  · rw [if_pos (show (4002 : Int32) ≤ _ from nI_le (a := 4002) h (by omega))]
    split
    · exact fin _ (fun h9 => by omega) _
    · exact fin _ (fun h9 => by omega) _
  · rw [if_neg (show ¬ (4002 : Int32) ≤ _ from nI_ge (b := 4002) (by omega) (by decide)), nI_s1 (by omega), Nat.add_sub_cancel, ld_46 (by omega), d4 st.length (by omega) (by omega), gD_app (by omega), if_pos (Eq.refl _)]
    simp only [bS]
    rw [pk_sub ha]
    by_cases h5 : by'.length ≤ 4000
    · rw [d5 h5]
      by_cases h6 : lg < by'.length - a
      · rw [if_neg (nI_ge h6 (by omega))]
        exact fin _ (fun _ => by rw [if_pos h6]) _
      · rw [if_pos (nI_le (by omega) (by omega))]
        exact fin _ (fun _ => by rw [if_neg h6]) _
    · split
      · exact fin _ (fun h9 => by omega) _
      · exact fin _ (fun h9 => by omega) _
/-- an empty line -/
theorem g199_s (D : dS S by' st lg) (hb : by'.length < 2 ^ 29) (hs : st.length ≤ by'.length) (hl : lg ≤ by'.length) : ∃ S', g199 S = some S' ∧ dS S' (by' ++ [10]) (st ++ [by'.length]) lg ∧ df [45, 47, 49] [44, 46] S S' := by
  unfold g199
  obtain ⟨T, t1, t2, t3⟩ := g197_s D (by omega)
  obtain ⟨U, u1, u2, u3⟩ := g198_s t2 (by omega) hs (Nat.le_refl _) hl
  rw [t1]
  simp only [bS]
  rw [u1, Nat.sub_self] at *
  rw [if_neg (Nat.not_lt_zero _)] at u2
  exact ⟨U, rfl, u2, (t3.mono (by decide) (by decide)).tr (u3.mono (by decide) (by decide))⟩
abbrev syD (S S' : mS) : Prop := df [45] [44] S S'
theorem mEs_sy {S' : mS} {J K : List Nat} (D : df J K S S') (h : 2 ∉ J ∧ ∀ k ∈ K, uE k = 0) (H : mEs S es) (w : wE es) : mEs S' es := mEs_df D h H w
/-- a name -/
theorem g201_s (D : dS S by' st lg) (hb : by'.length < 2 ^ 29) (H : mEs S es) (w : wE es) {e : Nat} (he : e < es.length) : ∃ S', g201 (nI e) S = some S' ∧ dS S' (by' ++ eNm (gE es e)) st lg ∧ syD S S' := by
  have w1 := w.1
  have wn := nmOK_NB (w.2 e he).2.2.2.1
  have key : ∀ k n i (S : mS), i + k = (eNm (gE es e)).length → k < n → mEs S es → dS S (by' ++ (eNm (gE es e)).take i) st lg → ∃ S', gl201_2 n (nI e) (nI i) S = some S' ∧ dS S' (by' ++ eNm (gE es e)) st lg ∧ syD S S' := by
    intro k
    induction k with
    | zero =>
      intro n i S hi hn H D
      obtain ⟨n, rfl⟩ : ∃ m, n = m + 1 := ⟨n - 1, by omega⟩
      rw [gl201_2]
      dsimp only
      rw [ld_8 (by omega), (H.2 e he).2.1.1]
      simp only [bS]
      rw [if_pos (nI_le (by omega) (by omega))]
      rw [List.take_of_length_le (by omega)] at D
      exact ⟨S, rfl, D, df.rfl'⟩
    | succ k ih =>
      intro n i S hi hn H D
      obtain ⟨n, rfl⟩ : ∃ m, n = m + 1 := ⟨n - 1, by omega⟩
      have A := (H.2 e he).2.1.2
      rw [gl201_2]
      dsimp only
      rw [ld_8 (by omega), (H.2 e he).2.1.1]
      simp only [bS]
      rw [if_neg (nI_ge (by omega) (by omega)), lt_10, pk_mul, nI_add, A.ld (by omega)]
      simp only [bS]
      obtain ⟨T, t1, t2, t3⟩ := g195_s D (by simp; omega) (tx (eNm (gE es e)) i)
      rw [t1]
      simp only [bS, nI_1]
      have e5 : by' ++ (eNm (gE es e)).take (i + 1) = by' ++ (eNm (gE es e)).take i ++ [tx (eNm (gE es e)) i] := by
        rw [take_s 999 (by omega), List.append_assoc]
        rfl
      rw [← e5] at t2
      obtain ⟨U, u1, u2, u3⟩ := ih n (i + 1) T (by omega) (by omega) (mEs_sy t3 (by decide) H w) t2
      exact ⟨U, u1, u2, t3.tr u3⟩
  unfold g201
  exact key (eNm (gE es e)).length xFuel 0 S (by omega) (pFuel _ (by omega)) H (by simpa using D)
theorem g200_s (D : dS S by' st lg) (hb : by'.length < 2 ^ 28) (H : mEs S es) (w : wE es) {e : Nat} (he : e < es.length) : ∃ S', g200 (nI e) S = some S' ∧ dS S' (by' ++ eNam es e) st lg ∧ syD S S' := by
  have w1 := w.1
  unfold g200 eNam
  rw [ld_3 (by omega), (H.2 e he).1.1, ld_4 (by omega), (H.2 e he).1.2.1]
  simp only [bS, gj200_25]
  cases ho : eOw (gE es e) with
  | none =>
    rw [if_neg (show ¬ bZ (Option.isNone none) = 0 from bZt)]
    obtain ⟨T, t1, t2, t3⟩ := g201_s D (by omega) H w he
    rw [t1]
    exact ⟨T, rfl, t2, t3⟩
  | some o =>
    have ho2 := ((w.2 e he).1 o ho).1
    have wn := nmOK_NB (w.2 o (by omega)).2.2.2.1
    rw [if_pos (show bZ (Option.isNone (some o)) = 0 from bZf), oI_s]
    obtain ⟨T, t1, t2, t3⟩ := g201_s D (by omega) H w (show o < es.length by omega)
    rw [t1]
    simp only [bS]
    obtain ⟨U, u1, u2, u3⟩ := g195_s t2 (by simp; omega) 46
    rw [show (46 : Int32) = nI 46 from rfl, u1]
    simp only [bS]
    obtain ⟨V, v1, v2, v3⟩ := g201_s u2 (by simp; omega) (mEs_sy (t3.tr u3) (by decide) H w) w he
    rw [v1]
    refine ⟨V, rfl, ?_, (t3.tr u3).tr v3⟩
    have e5 : by' ++ eNm (gE es o) ++ [46] ++ eNm (gE es e) = by' ++ (eNm (gE es o) ++ [46] ++ eNm (gE es e)) := by simp
    rw [e5] at v2
    exact v2
def dig (k : Nat) : List Nat := if 9 < k then [48 + k / 10, 48 + k % 10] else [48 + k % 10]
/-- a number of one or two digits -/
theorem g196_s (D : dS S by' st lg) (hb : by'.length < 2 ^ 29) {k : Nat} (hk : k < 100) : ∃ S', g196 (nI k) S = some S' ∧ dS S' (by' ++ dig k) st lg ∧ syD S S' := by
  have d1 : nI k / 1 = nI k := by
    have := pk_div (a := k) (d := 1) (by omega) (by decide) (by decide)
    rw [Nat.div_one] at this
    exact this
  have d10 : nI k / nI 10 = nI (k / 10) := pk_div (by omega) (by decide) (by decide)
  have r10 : ∀ x, x < 100 → xrem (nI x) 10 = nI (x % 10) := fun x hx => pk_rem (d := 10) (by omega) (by decide) (by decide)
  have u1 : ∀ n (S : mS), gl196_18 (n + 2) (nI k) 1 S = ((g195 (nI (48 + k % 10)) S).bind fun S_4 => some S_4) := fun n S => by
    rw [gl196_18]
    dsimp only
    rw [if_neg (show ¬ (1 : Int32) ≤ 0 by decide), if_neg (show ¬ (1 : Int32) = 0 by decide), d1, r10 k hk, lt_48, nI_add]
    congr 1
  unfold g196 dig
  rw [xF1, gl196_2]
  dsimp only
  rw [if_neg (show ¬ (1 : Int32) = 0 by decide), d1]
  by_cases h : 9 < k
  · rw [if_neg (show ¬ nI k ≤ 9 from nI_ge (a := 9) h (by omega)), if_pos h, show (1 : Int32) * 10 = nI 10 from rfl, show (999999 : Nat) = 999998 + 1 from rfl, gl196_2]
    dsimp only
    rw [if_neg (show ¬ nI 10 = 0 by decide), d10, if_pos (show nI (k / 10) ≤ 9 from nI_le (b := 9) (by omega) (by decide)), show xFuel = 999997 + 2 + 1 from rfl, gl196_18]
    dsimp only
    rw [if_neg (show ¬ nI 10 ≤ 0 by decide), if_neg (show ¬ nI 10 = 0 by decide), d10, r10 (k / 10) (by omega), show k / 10 % 10 = k / 10 by omega, lt_48, nI_add]
    obtain ⟨T, t1, t2, t3⟩ := g195_s D (by omega) (48 + k / 10)
    rw [t1]
    simp only [bS]
    rw [show nI 10 / 10 = 1 by decide, u1]
    obtain ⟨U, v1, v2, v3⟩ := g195_s t2 (by simp; omega) (48 + k % 10)
    rw [v1]
    refine ⟨U, rfl, ?_, t3.tr v3⟩
    rw [List.append_assoc] at v2
    exact v2
  · rw [if_pos (show nI k ≤ 9 from nI_le (b := 9) (by omega) (by decide)), if_neg h, show xFuel = 999998 + 2 from rfl, u1]
    obtain ⟨U, v1, v2, v3⟩ := g195_s D (by omega) (48 + k % 10)
    rw [v1]
    exact ⟨U, rfl, v2, v3⟩
end PMDR
