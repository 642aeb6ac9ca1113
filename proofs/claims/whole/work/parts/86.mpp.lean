section PMPP
variable {S : mS} {es : List En}
/-- the line of a target -/
def tgL (es : List En) (k e : Nat) : List Nat := (if 9 < k then [91, 48 + k / 10, 48 + k % 10, 93] else [91, 48 + k % 10, 93]) ++ [32] ++ eNam es e
theorem tgL_eq (k e : Nat) : tgL es k e = [91] ++ dig k ++ [93] ++ [32] ++ eNam es e := by
  unfold tgL dig
  split <;> simp
theorem tgL_len (w0 : wE es) {e : Nat} (he : e < es.length) (k : Nat) : (tgL es k e).length ≤ 26 := by
  have := eNam_len w0 he
  unfold tgL
  rw [List.length_append, List.length_append]
  split <;> simp <;> omega
theorem g214_t1 (H : mEs S es) (w0 : wE es) {ts : List Nat} (T : tS S ts) {k : Nat} (hk : k < ts.length) (hts : ts.length ≤ 40) (hlt : ∀ e ∈ ts, e < es.length) {o : Ou} (ho : ouW o) (hb : o.1.length < 2 ^ 26) (D : dO S o) (k193 : Int32 → Int32 → Int32 → Int32 → Int32 → mS → Option (Int32 × mS)) (x1 x2 x3 x4 : Int32) : ∃ S', gj214_211 k193 x1 x2 x3 x4 (nI k) S = k193 x1 x2 x3 x4 (nI (k + 1)) S' ∧ dO S' (ouL o (tgL es (k + 1) (ts.getD k 0))) ∧ lyD S S' := by
  have he := hlt _ (gD_mem (d := 0) hk)
  have hl := tgL_len w0 he (k + 1)
  have hn := eNam_len w0 he
  have hdl : (dig (k + 1)).length ≤ 2 := by unfold dig; split <;> simp
  unfold gj214_211
  obtain ⟨A, a1, a2, a3⟩ := g197_s D (by have := ho.1; omega)
  rw [a1]
  simp only [bS]
  obtain ⟨B, b1, b2, b3⟩ := g195_s a2 (by omega) 91
  rw [show (91 : Int32) = nI 91 from rfl, b1]
  simp only [bS, nI_1]
  obtain ⟨C, c1, c2, c3⟩ := g196_s b2 (by simp; omega) (show k + 1 < 100 by omega)
  rw [c1]
  simp only [bS]
  obtain ⟨E, d1, d2, d3⟩ := g195_s c2 (by simp; omega) 93
  rw [show (93 : Int32) = nI 93 from rfl, d1]
  simp only [bS]
  obtain ⟨F, e1, e2, e3⟩ := g195_s d2 (by simp; omega) 32
  rw [show (32 : Int32) = nI 32 from rfl, e1]
  simp only [bS]
  have DF : df [45, 47, 49] [44, 46] S F := (((((a3.mono (by decide) (by decide) : df [45, 47, 49] [44, 46] S A)).tr (b3.mono (by decide) (by decide))).tr (c3.mono (by decide) (by decide))).tr (d3.mono (by decide) (by decide))).tr (e3.mono (by decide) (by decide))
  have q50 : F.2 50 k = nI (ts.getD k 0) := by rw [DF.2 50 (by decide)]; exact T.2 k hk
  rw [ld_50 (by omega), q50]
  simp only [bS]
  obtain ⟨G, f1, f2, f3⟩ := g200_s e2 (by simp; omega) (mEs_df DF ⟨by decide, by decide⟩ H w0) w0 he
  rw [f1]
  simp only [bS]
  have e5 : o.1 ++ [91] ++ dig (k + 1) ++ [93] ++ [32] ++ eNam es (ts.getD k 0) = o.1 ++ tgL es (k + 1) (ts.getD k 0) := by
    rw [tgL_eq]
    simp only [List.append_assoc]
  rw [e5] at f2
  obtain ⟨K, g1, g2, g3⟩ := g198_o ho f2 (by omega)
  rw [g1]
  simp only [bS]
  exact ⟨K, rfl, g2, (DF.tr (f3.mono (by decide) (by decide))).tr (g3.mono (by decide) (by decide))⟩
abbrev tEnd (x1 x2 x3 x4 : Int32) (S : mS) : Option (Int32 × mS) := if (S.1 45) ≤ 4000 then (some (sPut S 53 (S.1 45))).bind fun S_3 => gl214_286 xFuel x1 x2 x3 x4 0 S_3 else some ((-3), S)
theorem g214_tl (w0 : wE es) {ts : List Nat} (hts : ts.length ≤ 40) (hlt : ∀ e ∈ ts, e < es.length) (x1 x2 x3 x4 : Int32) : ∀ m n k (o : Ou) (S : mS), k + m = ts.length → m < n → 0 < k → mEs S es → tS S ts → ouW o → o.1.length + 30 * m < 2 ^ 26 → dO S o → ∃ S', gl214_193 n x1 x2 x3 x4 (nI k) S = tEnd x1 x2 x3 x4 S' ∧ dO S' (tgts es (k + 1) (ts.drop k) o) ∧ lyD S S' := by
  intro m
  induction m with
  | zero =>
    intro n k o S hk hn h0 H T ho hb D
    obtain ⟨n, rfl⟩ : ∃ j, n = j + 1 := ⟨n - 1, by omega⟩
    rw [gl214_193]
    dsimp only
    rw [T.1, if_pos (nI_le (by omega) (by omega)), List.drop_eq_nil_of_le (by omega)]
    exact ⟨S, rfl, D, df.rfl'⟩
  | succ m ih =>
    intro n k o S hk hn h0 H T ho hb D
    obtain ⟨n, rfl⟩ : ∃ j, n = j + 1 := ⟨n - 1, by omega⟩
    have hlt2 : k < ts.length := by omega
    have he := hlt _ (gD_mem (d := 0) hlt2)
    have hl := tgL_len w0 he (k + 1)
    have edr : ts.drop k = ts.getD k 0 :: ts.drop (k + 1) := by
      rw [List.drop_eq_getElem_cons hlt2]
      congr 1
      simp [List.getD_eq_getElem?_getD, hlt2]
    rw [gl214_193, edr, tgts]
    dsimp only
    rw [T.1, if_neg (nI_ge (by omega) (by omega)), if_neg (nI_ne0 h0 (by omega))]
    obtain ⟨U, u1, u2, u3⟩ := g214_t1 H w0 T hlt2 hts hlt ho (by omega) D (gl214_193 n) x1 x2 x3 x4
    rw [u1]
    obtain ⟨V, v1, v2, v3⟩ := ih n (k + 1) _ U (by omega) (by omega) (by omega) (mEs_df u3 ⟨by decide, by decide⟩ H w0) (tS_df u3 (by decide) T) (ouL_w ho _) (by rw [ouL_len]; omega) u2
    exact ⟨V, v1, v2, u3.tr v3⟩
theorem g214_t (H : mEs S es) (w0 : wE es) {ts : List Nat} (T : tS S ts) (hts : ts.length ≤ 40) (hlt : ∀ e ∈ ts, e < es.length) {o : Ou} (ho : ouW o) (hb : o.1.length < 2 ^ 25) (D : dO S o) (x1 x2 x3 x4 : Int32) : ∃ S', gl214_193 xFuel x1 x2 x3 x4 0 S = tEnd x1 x2 x3 x4 S' ∧ dO S' (tgts es 1 ts (if ts = [] then o else ouL o [])) ∧ lyD S S' := by
  rw [show (0 : Int32) = nI 0 from rfl, xF1, gl214_193]
  dsimp only
  rw [T.1]
  cases hts2 : ts with
  | nil =>
    rw [if_pos (show nI ([] : List Nat).length ≤ nI 0 from nI_le (Nat.zero_le _) (by decide))]
    exact ⟨S, rfl, D, df.rfl'⟩
  | cons e l =>
    have hlt2 : 0 < ts.length := by rw [hts2]; simp
    rw [← hts2]
    rw [if_neg (nI_ge hlt2 (by omega)), if_pos (show nI 0 = 0 from rfl), if_neg (show ¬ ts = [] by rw [hts2]; simp)]
    obtain ⟨U, u1, u2, u3⟩ := g199_s D (by omega) ho.1 ho.2
    rw [u1]
    simp only [bS]
    have D2 : dO U (ouL o []) := by
      unfold dO ouL
      dsimp only
      rw [List.append_nil, List.length_nil, if_neg (Nat.not_lt_zero _)]
      exact u2
    have H2 := mEs_df u3 ⟨by decide, by decide⟩ H w0
    have T2 := tS_df u3 (by decide) T
    have e1 : (ouL o []).1.length = o.1.length + 1 := ouL_len []
    obtain ⟨V, v1, v2, v3⟩ := g214_t1 H2 w0 T2 hlt2 hts hlt (ouL_w ho []) (by omega) D2 (gl214_193 999999) x1 x2 x3 x4
    rw [v1]
    have he := hlt _ (gD_mem (d := 0) hlt2)
    have hl := tgL_len w0 he (0 + 1)
    obtain ⟨X, y1, y2, y3⟩ := g214_tl w0 hts hlt x1 x2 x3 x4 (ts.length - 1) 999999 (0 + 1) _ V (by omega) (by omega) (by omega) (mEs_df v3 ⟨by decide, by decide⟩ H2 w0) (tS_df v3 (by decide) T2) (ouL_w (ouL_w ho []) _) (by rw [ouL_len]; omega) v2
    refine ⟨X, y1, ?_, (u3.tr v3).tr y3⟩
    have e2 : tgts es 1 ts (ouL o []) = tgts es (0 + 1 + 1) (ts.drop (0 + 1)) (ouL (ouL o []) (tgL es (0 + 1) (ts.getD 0 0))) := by
      rw [hts2]
      rfl
    rw [e2]
    exact y2
/-- the draft becomes the page -/
theorem g214_c {o : Ou} {ts : List Nat} {sm : Nat} (D : dO S o) (ho : ouW o) (h4 : o.1.length ≤ 4000) (T : tS S ts) (hts : ts.length ≤ 40) (h48 : S.1 48 = nI sm) (x1 x2 x3 x4 : Int32) : ∃ S', gl214_286 xFuel x1 x2 x3 x4 (nI 0) (sPut S 53 (nI o.1.length)) = some (nI o.2.1.length, S') ∧ mPg S' (o.1, o.2.1, ts, sm, o.2.2) ∧ df [53, 55, 56, 57, 59] [52, 54, 58] S S' := by
  obtain ⟨⟨d1, d2⟩, ⟨d3, d4⟩, d5⟩ := D
  have hst := ho.1
  -- bytes
  have k1 := l_fl (fun n i s => gl214_286 n x1 x2 x3 x4 (nI i) s) (fun i s => sSet s 52 i (nI (o.1.getD i 0))) (fun s => (some (sPut s 55 (s.1 47))).bind fun S_2 => gl214_326 xFuel x1 x2 x3 x4 0 S_2) (fun i s => df [53] [52] S s ∧ s.1 53 = nI o.1.length ∧ ∀ j, j < i → s.2 52 j = nI (o.1.getD j 0)) o.1.length (fun n s hs => ?_) (fun n i s hi hs => ?_) o.1.length xFuel 0 (sPut S 53 (nI o.1.length)) (by omega) (pFuel _ (by omega)) ⟨df.put (by decide), rfl, fun j hj => absurd hj (Nat.not_lt_zero _)⟩
  rotate_left
  · simp only [gl214_286]
    rw [hs.2.1, if_pos (nI_le (Nat.le_refl _) (by omega))]
  · obtain ⟨h1, h2, h3⟩ := hs
    constructor
    · have z : s.2 44 i = nI (o.1.getD i 0) := by rw [h1.2 44 (by decide)]; exact d2 i hi (by omega)
      simp only [gl214_286]
      rw [h2, if_neg (nI_ge hi (by omega)), ld_44 (by omega), z]
      simp only [bS]
      rw [st_52 (by omega)]
      simp only [bS, nI_1]
    · refine ⟨h1.tr (df.set (by decide)), h2, fun j hj => ?_⟩
      by_cases h : j = i
      · rw [sS_e2 h, h]
      · rw [sS_ne (by omega)]
        exact h3 j (by omega)
  obtain ⟨e1, f1, f2, f3⟩ := k1
  rw [e1]
  generalize fl (fun i s => sSet s 52 i (nI (o.1.getD i 0))) 0 o.1.length (sPut S 53 (nI o.1.length)) = A at f1 f2 f3
  simp only [bS]
  have a47 : A.1 47 = nI o.2.1.length := by rw [f1.1 47 (by decide)]; exact d3
  rw [a47]
  -- lines
  have k2 := l_fl (fun n i s => gl214_326 n x1 x2 x3 x4 (nI i) s) (fun i s => sSet s 54 i (nI (o.2.1.getD i 0))) (fun s => (some (sPut s 59 (s.1 51))).bind fun S_2 => gl214_366 xFuel x1 x2 x3 x4 0 S_2) (fun i s => df [55] [54] A s ∧ s.1 55 = nI o.2.1.length ∧ ∀ j, j < i → s.2 54 j = nI (o.2.1.getD j 0)) o.2.1.length (fun n s hs => ?_) (fun n i s hi hs => ?_) o.2.1.length xFuel 0 (sPut A 55 (nI o.2.1.length)) (by omega) (pFuel _ (by omega)) ⟨df.put (by decide), rfl, fun j hj => absurd hj (Nat.not_lt_zero _)⟩
  rotate_left
  · simp only [gl214_326]
    rw [hs.2.1, if_pos (nI_le (Nat.le_refl _) (by omega))]
  · obtain ⟨h1, h2, h3⟩ := hs
    constructor
    · have z : s.2 46 i = nI (o.2.1.getD i 0) := by rw [h1.2 46 (by decide), f1.2 46 (by decide)]; exact d4 i hi (by omega)
      simp only [gl214_326]
      rw [h2, if_neg (nI_ge hi (by omega)), ld_46 (by omega), z]
      simp only [bS]
      rw [st_54 (by omega)]
      simp only [bS, nI_1]
    · refine ⟨h1.tr (df.set (by decide)), h2, fun j hj => ?_⟩
      by_cases h : j = i
      · rw [sS_e2 h, h]
      · rw [sS_ne (by omega)]
        exact h3 j (by omega)
  obtain ⟨e2, p1, p2, p3⟩ := k2
  rw [show (0 : Int32) = nI 0 from rfl, e2]
  generalize fl (fun i s => sSet s 54 i (nI (o.2.1.getD i 0))) 0 o.2.1.length (sPut A 55 (nI o.2.1.length)) = B at p1 p2 p3
  simp only [bS]
  have b51 : B.1 51 = nI ts.length := by rw [p1.1 51 (by decide), f1.1 51 (by decide)]; exact T.1
  rw [b51]
  -- targets
  have k3 := l_fl (fun n i s => gl214_366 n x1 x2 x3 x4 (nI i) s) (fun i s => sSet s 58 i (nI (ts.getD i 0))) (fun s => (some (sPut s 56 (s.1 48))).bind fun S_2 => (some (sPut S_2 57 (S_2.1 49))).bind fun S_4 => some (S_4.1 55, S_4)) (fun i s => df [59] [58] B s ∧ s.1 59 = nI ts.length ∧ ∀ j, j < i → s.2 58 j = nI (ts.getD j 0)) ts.length (fun n s hs => ?_) (fun n i s hi hs => ?_) ts.length xFuel 0 (sPut B 59 (nI ts.length)) (by omega) (pFuel _ (by omega)) ⟨df.put (by decide), rfl, fun j hj => absurd hj (Nat.not_lt_zero _)⟩
  rotate_left
  · simp only [gl214_366]
    rw [hs.2.1, if_pos (nI_le (Nat.le_refl _) (by omega))]
  · obtain ⟨h1, h2, h3⟩ := hs
    constructor
    · have z : s.2 50 i = nI (ts.getD i 0) := by rw [h1.2 50 (by decide), p1.2 50 (by decide), f1.2 50 (by decide)]; exact T.2 i hi
      simp only [gl214_366]
      rw [h2, if_neg (nI_ge hi (by omega)), ld_50 (by omega), z]
      simp only [bS]
      rw [st_58 (by omega)]
      simp only [bS, nI_1]
    · refine ⟨h1.tr (df.set (by decide)), h2, fun j hj => ?_⟩
      by_cases h : j = i
      · rw [sS_e2 h, h]
      · rw [sS_ne (by omega)]
        exact h3 j (by omega)
  obtain ⟨e3, q1, q2, q3⟩ := k3
  rw [show (0 : Int32) = nI 0 from rfl, e3]
  generalize fl (fun i s => sSet s 58 i (nI (ts.getD i 0))) 0 ts.length (sPut B 59 (nI ts.length)) = C at q1 q2 q3
  simp only [bS]
  have c48 : C.1 48 = nI sm := by rw [q1.1 48 (by decide), p1.1 48 (by decide), f1.1 48 (by decide)]; exact h48
  have c49 : C.1 49 = nI o.2.2 := by rw [q1.1 49 (by decide), p1.1 49 (by decide), f1.1 49 (by decide)]; exact d5 h4
  have c53 : C.1 53 = nI o.1.length := by rw [q1.1 53 (by decide), p1.1 53 (by decide)]; exact f2
  have c55 : C.1 55 = nI o.2.1.length := by rw [q1.1 55 (by decide)]; exact p2
  rw [c48, show (sPut C 56 (nI sm)).1 49 = nI o.2.2 from c49, show (sPut (sPut C 56 (nI sm)) 57 (nI o.2.2)).1 55 = nI o.2.1.length from c55]
  refine ⟨_, rfl, ⟨⟨c53, fun i hi => ?_⟩, ⟨c55, fun i hi => ?_⟩, ⟨q2, fun i hi => q3 i hi⟩, rfl, rfl⟩, ?_⟩
  · show C.2 52 i = _
    rw [q1.2 52 (by decide), p1.2 52 (by decide)]
    exact f3 i hi
  · show C.2 54 i = _
    rw [q1.2 54 (by decide)]
    exact p3 i hi
  · exact (((f1.mono (by decide) (by decide) : df [53, 55, 56, 57, 59] [52, 54, 58] S A).tr (p1.mono (by decide) (by decide))).tr (q1.mono (by decide) (by decide))).tr ((df.put (by decide)).tr (df.put (by decide)))
theorem how01 (x : Int32) : (0 ≤ x ∧ x ≤ 1) ↔ (x = 0 ∨ x = 1) := by
  constructor
  · rintro ⟨h1, h2⟩
    obtain ⟨j, hj, rfl⟩ := nI_of2 (M := 1) (n := 1) (by decide) (Int32.not_lt.mpr h1) h2
    rcases Nat.le_one_iff_eq_zero_or_eq_one.mp hj with h | h
    · exact Or.inl (by rw [h]; rfl)
    · exact Or.inr (by rw [h]; rfl)
  · rintro (rfl | rfl) <;> decide
theorem tgts_mono : ∀ (l : List Nat) k (o : Ou), o.1.length ≤ (tgts es k l o).1.length := by
  intro l
  induction l with
  | nil => intro k o; exact Nat.le_refl _
  | cons e l ih =>
    intro k o
    have := ih (k + 1) (ouL o (tgL es k e))
    rw [ouL_len] at this
    rw [tgts]
    unfold tgL at this
    omega
theorem tgts_up (w0 : wE es) : ∀ (l : List Nat) k (o : Ou), (∀ e ∈ l, e < es.length) → (tgts es k l o).1.length ≤ o.1.length + 27 * l.length := by
  intro l
  induction l with
  | nil => intro k o _; exact Nat.le_refl _
  | cons e l ih =>
    intro k o hl
    have := ih (k + 1) (ouL o (tgL es k e)) (fun x hx => hl x (List.mem_cons_of_mem _ hx))
    have h2 := tgL_len w0 (hl e (List.mem_cons_self ..)) k
    rw [ouL_len] at this
    rw [tgts, List.length_cons]
    unfold tgL at this h2
    omega
/-- the page out of its blocks -/
def pgF (es : List En) (d : Dr) : Pg := ((tgts es 1 d.2.1 (if d.2.1 = [] then d.1 else ouL d.1 [])).1, (tgts es 1 d.2.1 (if d.2.1 = [] then d.1 else ouL d.1 [])).2.1, d.2.1, d.2.2, (tgts es 1 d.2.1 (if d.2.1 = [] then d.1 else ouL d.1 [])).2.2)
def pg0 (es : List En) (e : Nat) : Dr := (ouL ([], [], 0) (eNam es e), [], 0)
theorem pag_eq (e w : Nat) (ls : Bool) : pag es e w ls = pgF es (layAll es w ls (tags es (cnt es 40 (some e))) (lastA ((stI es 41 (cnt es 40 (some e))).map (bkI es)) none) (layAll es w ls ((stI es 41 (cnt es 40 (some e))).map (bkI es)) none (pg0 es e))) := by
  rw [← layAll_app, ← show story es 41 (cnt es 40 (some e)) = (stI es 41 (cnt es 40 (some e))).map (bkI es) from story_I 41 _]
  rfl
/-- page -/
theorem m_page {σ : St} (M : MR S σ) (w : wSt σ) (a : Nat → Int32) : ∃ S', g214 (a 1) (a 2) (a 3) S = some ((stp σ 12 a).1, S') ∧ MR S' (stp σ 12 a).2 := by
  obtain ⟨T, H, h33, P, Nn⟩ := id M
  have w0 := w.2.1
  have w1 := w0.1
  show ∃ S', g214 (a 1) (a 2) (a 3) S = some ((sPag σ (a 1) (a 2) (a 3)).1, S') ∧ MR S' (sPag σ (a 1) (a 2) (a 3)).2
  unfold g214 gj214_28 sPag
  rw [g148_s H w0]
  simp only [bS]
  cases he : eIx σ.2.1 (a 1) with
  | none =>
    rw [if_pos (show bZ (Option.isSome none) = 0 from bZf)]
    exact ⟨S, rfl, M⟩
  | some e =>
    obtain ⟨hel, hex⟩ := eIx_lt he
    rw [if_neg (show ¬ bZ (Option.isSome (some e)) = 0 from bZt), g141_s]
    simp only [bS, bZ_0]
    by_cases hw : (12 : Int32) ≤ a 2 ∧ a 2 ≤ 60
    · rw [decide_eq_true hw, if_neg (show ¬ true = false by decide), g141_s]
      simp only [bS, bZ_0]
      by_cases hh : (0 : Int32) ≤ a 3 ∧ a 3 ≤ 1
      · have hh2 := (how01 (a 3)).mp hh
        rw [decide_eq_true hh, if_neg (show ¬ true = false by decide), if_pos ⟨hw.1, hw.2, hh2⟩, hex]
        obtain ⟨W, hW, hwe⟩ := nI_of2 (M := 60) (n := 60) (by decide) (show ¬ a 2 < 0 from fun h9 => absurd (Int32.lt_of_lt_of_le h9 (show (0 : Int32) ≤ 12 by decide)) (Int32.not_lt.mpr hw.1)) hw.2
        rw [hwe, nI_clamp (by omega)]
        generalize hls : decide (a 3 = 1) = ls
        have hpg := pag_eq (es := σ.2.1) e W ls
        generalize pag σ.2.1 e W ls = pg at hpg ⊢
        -- the beginning
        have D0 : pqD S (sPut (sPut (sPut (sPut (sPut S 45 0) 47 0) 48 0) 49 0) 51 0) := ((((df.put (by decide)).tr (df.put (by decide))).tr (df.put (by decide))).tr (df.put (by decide))).tr (df.put (by decide))
        have dO0 : dO (sPut (sPut (sPut (sPut (sPut S 45 0) 47 0) 48 0) 49 0) 51 0) ([], [], 0) := ⟨⟨rfl, fun i hi => absurd hi (Nat.not_lt_zero _)⟩, ⟨rfl, fun i hi => absurd hi (Nat.not_lt_zero _)⟩, fun _ => rfl⟩
        have T0 : tS (sPut (sPut (sPut (sPut (sPut S 45 0) 47 0) 48 0) 49 0) 51 0) [] := ⟨rfl, fun i hi => absurd hi (Nat.not_lt_zero _)⟩
        have s0 : (sPut (sPut (sPut (sPut (sPut S 45 0) 47 0) 48 0) 49 0) 51 0).1 48 = nI 0 := rfl
        generalize sPut (sPut (sPut (sPut (sPut S 45 0) 47 0) 48 0) 49 0) 51 0 = A at D0 dO0 T0 s0 ⊢
        have H0 := mEs_pq D0 H w0
        have ouW0 : ouW ([], [], 0) := ⟨Nat.le_refl _, Nat.le_refl _⟩
        obtain ⟨B, b1, b2, b3⟩ := g197_s dO0 (by decide)
        rw [b1]
        simp only [bS]
        have H1 := mEs_df b3 ⟨by decide, by decide⟩ H0 w0
        obtain ⟨C, c1, c2, c3⟩ := g200_s b2 (by decide) H1 w0 hel
        rw [c1]
        simp only [bS]
        have hn := eNam_len w0 hel
        obtain ⟨E, d1, d2, d3⟩ := g198_o (o := ([], [], 0)) ouW0 (l := eNam σ.2.1 e) c2 (by show 0 + _ < _; omega)
        rw [d1]
        simp only [bS]
        have DE : pqD S E := ((D0.tr (b3.mono (by decide) (by decide))).tr (c3.mono (by decide) (by decide))).tr (d3.mono (by decide) (by decide))
        have HE := mEs_pq DE H w0
        have ga := g160_o HE w0 (o := some e) (fun x hx => by cases hx; exact hel)
        rw [oI_s] at ga
        rw [ga]
        simp only [bS]
        have hx : ∀ x, cnt σ.2.1 40 (some e) = some x → x < σ.2.1.length := fun x hx => (cnt_lt w0 40 (some e) x (fun y hy => by cases hy; exact hel) hx).1
        generalize cnt σ.2.1 40 (some e) = x at hx hpg ⊢
        obtain ⟨F, f1, f2, f3⟩ := g212_s HE w0 hx
        rw [f1]
        simp only [bS]
        have DF : pqD S F := DE.tr (f3.mono (by decide) (by decide))
        have HF := mEs_pq DF H w0
        have Aq : ∀ {X : mS}, df [68] [66, 67, 69, 70] E X → tS X [] ∧ X.1 48 = nI 0 := fun {X} dx => ⟨tS_df dx (by decide) (tS_df d3 (by decide) (tS_df c3 (by decide) (tS_df b3 (by decide) T0))), by rw [dx.1 48 (by decide), d3.1 48 (by decide), c3.1 48 (by decide), b3.1 48 (by decide)]; exact s0⟩
        have R0 : pR σ.2.1.length F (pg0 σ.2.1 e) := ⟨dO_df f3 (by decide) d2, ouL_w ouW0 _, (Aq f3).1, ⟨w1, List.nodup_nil, fun x hx => absurd hx (by simp [pg0])⟩, (Aq f3).2⟩
        have lR0 : (ouL ([], [], 0) (eNam σ.2.1 e)).1.length ≤ 22 := by
          rw [ouL_len]
          show 0 + _ + 1 ≤ 22
          omega
        have dd1 : (pg0 σ.2.1 e).1.1.length ≤ 22 := lR0
        have dd2 : (pg0 σ.2.1 e).2.2 = 0 := rfl
        have dd3 : ouW (pg0 σ.2.1 e).1 := ouL_w ouW0 _
        generalize pg0 σ.2.1 e = dd at R0 dd1 dd2 dd3 hpg
        have sl := stI_len w0 41 x hx
        have rkx := rk_le w0 hx
        obtain ⟨G, d', x5, g1, g2, g3, g4, g5, g6⟩ := g214_b (ls := ls) (w := W) w0 hW (stI σ.2.1 41 x) (by omega) (stI_v w0 41 x hx) (stI_hd w0 41 x hx) dd dd2 (nI e) (a 3) (oI x) hls.symm (stI σ.2.1 41 x).length xFuel 0 dd F (by omega) (pFuel _ (by omega)) HF f2 R0 (by rw [List.take_zero]; rfl) dd3 (by omega) (by omega)
        rw [show (0 : Int32) = nI 0 from rfl, g1]
        have DG : pqD S G := DF.tr g6
        have HG := mEs_pq DG H w0
        have hsv := stI_v w0 41 x hx
        have hlA : bgR (lastA ((stI σ.2.1 41 x).map (bkI σ.2.1)) none) false := by
          have : ∀ (l : List (Nat × Nat)) ah, bgR ah false → (∀ q ∈ l, isTg (bSo ((gC σ.2.1 q.1).2.1.getD q.2 bkD)) = false) → bgR (lastA (l.map (bkI σ.2.1)) ah) false := by
            intro l
            induction l with
            | nil => intro ah h _; exact h
            | cons q l ih =>
              intro ah _ h2
              exact ih (some _) (show false = isTg _ from (h2 q (List.mem_cons_self ..)).symm) (fun y hy => h2 y (List.mem_cons_of_mem _ hy))
          exact this _ none rfl fun q hq => (hsv q hq).2
        have sLen := layAll_len (w := W) (ls := ls) w0 hW (stI σ.2.1 41 x) none dd (fun q hq => (hsv q hq).1) dd3
        -- the tags
        have tg : ∃ K d2, gj214_157 (nI e) (nI W) (a 3) (oI x) x5 G = gl214_193 xFuel (nI e) (nI W) (a 3) (oI x) 0 K ∧ pR σ.2.1.length K d2 ∧ (d2 = layAll σ.2.1 W ls (tags σ.2.1 x) (lastA ((stI σ.2.1 41 x).map (bkI σ.2.1)) none) (layAll σ.2.1 W ls ((stI σ.2.1 41 x).map (bkI σ.2.1)) none dd) ∨ (4000 < d2.1.1.length ∧ 4000 < (layAll σ.2.1 W ls (tags σ.2.1 x) (lastA ((stI σ.2.1 41 x).map (bkI σ.2.1)) none) (layAll σ.2.1 W ls ((stI σ.2.1 41 x).map (bkI σ.2.1)) none dd)).1.1.length)) ∧ d2.1.1.length ≤ 2 ^ 24 ∧ d2.2.2 < 2 ^ 29 ∧ pqD S K := by
          generalize hst : layAll σ.2.1 W ls ((stI σ.2.1 41 x).map (bkI σ.2.1)) none dd = ds at g3 sLen
          generalize lastA ((stI σ.2.1 41 x).map (bkI σ.2.1)) none = ah at hlA
          unfold gj214_157 gj214_190
          cases x with
          | none =>
            rw [if_pos oI_n]
            refine ⟨G, d', rfl, g2, ?_, by omega, by omega, DG⟩
            exact g3
          | some y =>
            have hy := hx y rfl
            rw [oI_s, if_neg (nI_nm (by omega)), g2.1.1.1]
            have tv : ∀ q ∈ [2, 3, 4, 5, 6].flatMap (fun s => tgI σ.2.1 y s 0 (gC σ.2.1 y).2.1.length), vI σ.2.1 q := fun q hq => by
              rw [List.mem_flatMap] at hq
              obtain ⟨s, hs, hq⟩ := hq
              exact (tgI_v hy (by omega) (by simp at hs; omega) q hq).1
            by_cases hfull : 4000 < d'.1.1.length
            · rw [if_pos (show (4000 : Int32) < _ from nI_lt (a := 4000) hfull (by omega))]
              refine ⟨G, d', rfl, g2, Or.inr ⟨hfull, ?_⟩, by omega, by omega, DG⟩
              rw [tags_I]
              have := (layAll_len (w := W) (ls := ls) w0 hW _ ah ds tv sLen.1).2.1
              generalize layAll σ.2.1 W ls (([2, 3, 4, 5, 6].flatMap fun s => tgI σ.2.1 y s 0 (gC σ.2.1 y).2.1.length).map (bkI σ.2.1)) ah ds = Y at this ⊢
              rcases g3 with g3 | g3
              · rw [g3] at hfull
                omega
              · omega
            · rw [if_neg (show ¬ (4000 : Int32) < _ from nI_nlt (a := 4000) (by omega) (by decide))]
              have g3' := g3.resolve_right fun h9 => hfull h9.1
              have e187 : (if a 3 = 1 then gj214_187 (nI e) (nI W) (a 3) (nI y) x5 (nI y) (nI W) 1 G else gj214_187 (nI e) (nI W) (a 3) (nI y) x5 (nI y) (nI W) 0 G) = gj214_187 (nI e) (nI W) (a 3) (nI y) x5 (nI y) (nI W) (bZ ls) G := by
                rw [← hls]
                by_cases h3 : a 3 = 1
                · rw [if_pos h3, decide_eq_true h3, bZ_t]
                · rw [if_neg h3, decide_eq_false h3, bZ_f]
              rw [e187]
              unfold gj214_187 gj214_190
              obtain ⟨K, k1, k2, k3, k4⟩ := g213_s (ls := ls) (ah := ah) HG w0 hW hy g2 hlA g4 g5
              rw [k1]
              simp only [bS]
              rw [g3'] at k2 k3
              exact ⟨K, _, rfl, k2, Or.inl rfl, k3.1, k3.2, DG.tr (k4.mono (by decide) (by decide))⟩
        obtain ⟨K, d2', k1, k2, k3, k4, k5, k6⟩ := tg
        rw [k1]
        generalize layAll σ.2.1 W ls (tags σ.2.1 x) (lastA ((stI σ.2.1 41 x).map (bkI σ.2.1)) none) (layAll σ.2.1 W ls ((stI σ.2.1 41 x).map (bkI σ.2.1)) none dd) = dF at k3 hpg
        have HK := mEs_pq k6 H w0
        obtain ⟨r1, r2, r3, r4, r5⟩ := k2
        have htl := r4.le
        obtain ⟨L, l1, l2, l3⟩ := g214_t HK w0 r3 htl r4.2.2 r2 (by omega) r1 (nI e) (nI W) (a 3) (oI x)
        rw [l1]
        have DL : pqD S L := k6.tr (l3.mono (by decide) (by decide))
        have HL := mEs_pq DL H w0
        have ouI : ouW (if d2'.2.1 = [] then d2'.1 else ouL d2'.1 []) ∧ d2'.1.1.length ≤ (if d2'.2.1 = [] then d2'.1 else ouL d2'.1 []).1.length := by
          by_cases h9 : d2'.2.1 = []
          · rw [if_pos h9]
            exact ⟨r2, Nat.le_refl _⟩
          · rw [if_neg h9]
            exact ⟨ouL_w r2 [], by rw [ouL_len]; omega⟩
        have tl := tgts_len w0 d2'.2.1 1 _ r4.2.2 ouI.1
        have TL := tS_df l3 (by decide) r3
        have sL : L.1 48 = nI d2'.2.2 := by rw [l3.1 48 (by decide)]; exact r5
        have pge : d2' = dF → pg = ((tgts σ.2.1 1 d2'.2.1 (if d2'.2.1 = [] then d2'.1 else ouL d2'.1 [])).1, (tgts σ.2.1 1 d2'.2.1 (if d2'.2.1 = [] then d2'.1 else ouL d2'.1 [])).2.1, d2'.2.1, d2'.2.2, (tgts σ.2.1 1 d2'.2.1 (if d2'.2.1 = [] then d2'.1 else ouL d2'.1 [])).2.2) := fun h9 => by
          rw [hpg, ← h9]
          rfl
        have pgB : 4000 < dF.1.1.length → 4000 < pg.1.length := fun h9 => by
          rw [hpg]
          show 4000 < (tgts σ.2.1 1 dF.2.1 (if dF.2.1 = [] then dF.1 else ouL dF.1 [])).1.length
          have m1 := tgts_mono (es := σ.2.1) dF.2.1 1 (if dF.2.1 = [] then dF.1 else ouL dF.1 [])
          have m2 : dF.1.1.length ≤ (if dF.2.1 = [] then dF.1 else ouL dF.1 []).1.length := by
            by_cases h8 : dF.2.1 = []
            · rw [if_pos h8]
              exact Nat.le_refl _
            · rw [if_neg h8, ouL_len]
              omega
          omega
        have m3 := tgts_mono (es := σ.2.1) d2'.2.1 1 (if d2'.2.1 = [] then d2'.1 else ouL d2'.1 [])
        have m4 := ouI.2
        have hbig : (tgts σ.2.1 1 d2'.2.1 (if d2'.2.1 = [] then d2'.1 else ouL d2'.1 [])).1.length < 2 ^ 30 := by
          have m5 := tgts_up w0 d2'.2.1 1 (if d2'.2.1 = [] then d2'.1 else ouL d2'.1 []) r4.2.2
          have m6 : (if d2'.2.1 = [] then d2'.1 else ouL d2'.1 []).1.length ≤ d2'.1.1.length + 1 := by
            by_cases h8 : d2'.2.1 = []
            · rw [if_pos h8]
              omega
            · rw [if_neg h8, ouL_len]
              exact Nat.le_refl _
          omega
        unfold tEnd
        rw [l2.1.1]
        generalize (tgts σ.2.1 1 d2'.2.1 (if d2'.2.1 = [] then d2'.1 else ouL d2'.1 [])) = oL at l2 tl pge m3 hbig ⊢
        by_cases h4 : oL.1.length ≤ 4000
        · have hd : d2' = dF := k3.resolve_right fun h9 => by omega
          have e9 := pge hd
          rw [if_pos (show nI oL.1.length ≤ (4000 : Int32) from nI_le (b := 4000) h4 (by decide)), e9]
          dsimp only
          rw [if_neg (show ¬ 4000 < oL.1.length by omega)]
          simp only [bS]
          obtain ⟨V, v1, v2, v3⟩ := g214_c l2 tl.1 h4 TL htl sL (nI e) (nI W) (a 3) (oI x)
          rw [show (0 : Int32) = nI 0 from rfl, v1]
          have DV : df [45, 47, 48, 49, 51, 61, 63, 68, 53, 55, 56, 57, 59] [44, 46, 50, 60, 62, 64, 65, 66, 67, 69, 70, 52, 54, 58] S V := (DL.mono (by decide) (by decide)).tr (v3.mono (by decide) (by decide))
          exact ⟨V, rfl, mTp_df DV (by decide) T, mEs_df DV ⟨by decide, by decide⟩ H w0, by rw [DV.1 33 (by decide)]; exact h33, v2, mNt_df DV (by decide) Nn⟩
        · have hp4 : 4000 < pg.1.length := by
            rcases k3 with k3 | k3
            · rw [pge k3]
              show 4000 < oL.1.length
              omega
            · exact pgB k3.2
          rw [if_neg (show ¬ nI oL.1.length ≤ (4000 : Int32) from nI_ge (a := 4000) (by omega) (by omega)), if_pos hp4]
          exact ⟨L, rfl, mTp_df DL (by decide) T, HL, by rw [DL.1 33 (by decide)]; exact h33, mPg_df DL (by decide) P, mNt_df DL (by decide) Nn⟩
      · rw [decide_eq_false hh, if_pos (Eq.refl false), if_neg fun h9 => hh ((how01 (a 3)).mpr h9.2.2)]
        exact ⟨S, rfl, M⟩
    · rw [decide_eq_false hw, if_pos (Eq.refl false), if_neg fun h9 => hw ⟨h9.1, h9.2.1⟩]
      exact ⟨S, rfl, M⟩
end PMPP
