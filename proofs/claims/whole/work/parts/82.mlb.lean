section PMLB
variable {S : mS} {c : Ck} {w fs ot : Nat} {ls : Bool} {es : List En}
theorem outI_f (item : Bool) (ind n : Nat) : ∀ m, (List.range m).flatMap (outI item false ind n) = List.replicate m 32 := by
  intro m
  induction m with
  | zero => rfl
  | succ m ih =>
    rw [List.range_succ, List.flatMap_append, ih, List.replicate_succ']
    congr 1
    simp [outI]
theorem outI_t (de n : Nat) : (List.range (2 * de + 2)).flatMap (outI true true (2 * de + 2) n) = List.replicate (2 * de) 32 ++ [45] ++ (if n = 0 then [] else [32]) := by
  have h : ∀ m, m ≤ 2 * de → (List.range m).flatMap (outI true true (2 * de + 2) n) = List.replicate m 32 := by
    intro m
    induction m with
    | zero => intro _; rfl
    | succ m ih =>
      intro hm
      rw [List.range_succ, List.flatMap_append, ih (by omega), List.replicate_succ']
      congr 1
      unfold outI
      simp
      rw [if_neg (by omega), if_neg (by omega)]
  rw [show 2 * de + 2 = 2 * de + 1 + 1 from rfl, List.range_succ, List.range_succ, List.flatMap_append, List.flatMap_append, h (2 * de) (Nat.le_refl _)]
  have e1 : List.flatMap (outI true true (2 * de + 1 + 1) n) [2 * de] = [45] := by
    simp [outI]
  have e2 : List.flatMap (outI true true (2 * de + 1 + 1) n) [2 * de + 1] = if n = 0 then [] else [32] := by
    by_cases hn : n = 0 <;> simp [outI, hn]
  rw [e1, e2]
/-- one line of a block -/
theorem g211_1 (hM : ckM c) (h1 : c.1.length ≤ 700) (h2 : c.2.1.length ≤ 121) {t : List (Nat × Nat)} (ht : ∀ i, i < c.2.1.length → i < (t.getD i (0, 0)).1 ∧ (t.getD i (0, 0)).1 ≤ c.2.1.length) {o : Ou} (ho : ouW o) (hb : o.1.length < 2 ^ 26) {item bg : Bool} (hfs : fs ≤ 10) (hot : ot ≤ 10) (h2i : item = true → bg = true → 2 ≤ fs) {i J : Nat} (hi : i ≤ c.2.1.length) (hJ : J = if c.2.1.length ≤ i then i else (t.getD i (0, 0)).1) (k103 : Int32 → Int32 → Int32 → Int32 → Int32 → Int32 → Int32 → Int32 → Int32 → mS → Option mS) (x1 x2 x3 x4 : Int32) (C : cS S c.1 c.2.1) (P : ptS S c.2.1.length 0 t) (D : dO S o) : ∃ S', gj211_117 k103 x1 x2 x3 x4 (bZ item) (nI fs) (nI ot) (nI i) (bZ bg) S = k103 x1 x2 x3 x4 (bZ item) (nI fs) (nI ot) (nI J) 0 S' ∧ dO S' (ouL o ((List.range (if bg = true then fs else ot)).flatMap (outI item bg (if bg = true then fs else ot) c.2.1.length) ++ lnB c i J)) ∧ lyD S S' := by
  obtain ⟨ho1, ho2⟩ := id ho
  obtain ⟨T, t1, t2, t3⟩ := g197_s D (by omega)
  unfold gj211_117
  rw [t1]
  simp only [bS]
  have CT := cS_df t3 (by decide) C
  have e133 : (if bZ bg = 0 then gj211_133 k103 x1 x2 x3 x4 (bZ item) (nI fs) (nI ot) (nI i) (bZ bg) (nI ot) T else gj211_133 k103 x1 x2 x3 x4 (bZ item) (nI fs) (nI ot) (nI i) (bZ bg) (nI fs) T) = gj211_133 k103 x1 x2 x3 x4 (bZ item) (nI fs) (nI ot) (nI i) (bZ bg) (nI (if bg = true then fs else ot)) T := by
    cases bg with
    | false => rw [if_pos bZf, if_neg (show ¬ false = true by decide)]
    | true => rw [if_neg bZt, if_pos (Eq.refl true)]
  rw [e133]
  have hind : (if bg = true then fs else ot) ≤ 10 := by split <;> omega
  have h2j : item = true → bg = true → 2 ≤ (if bg = true then fs else ot) := fun a b => by
    rw [if_pos b]
    exact h2i a b
  generalize (if bg = true then fs else ot) = ind at hind h2j ⊢
  unfold gj211_133
  obtain ⟨U, u1, u2, u3⟩ := g211_t (n0 := c.2.1.length) (item := item) (bg := bg) (ind := ind) (by' := o.1) (st := o.2.1 ++ [o.1.length]) (lg := o.2.2) hind h2j k103 x1 x2 x3 x4 (nI fs) (nI ot) i (by omega) ind xFuel 0 T (by omega) (pFuel _ (by omega)) CT.2.1 h2 (by simpa using t2)
  rw [show (0 : Int32) = nI 0 from rfl, u1]
  have CU := cS_df u3 (by decide) CT
  have hol := outI_len item bg ind c.2.1.length ind
  rw [CU.2.1]
  have DTU : lyD S U := (t3.mono (by decide) (by decide)).tr (u3.mono (by decide) (by decide))
  have fin : i ≤ J → J ≤ c.2.1.length → ∃ S', gj211_251 k103 x1 x2 x3 x4 (bZ item) (nI fs) (nI ot) (nI i) (bZ bg) (nI ind) (nI ind) (nI (J - i)) U = k103 x1 x2 x3 x4 (bZ item) (nI fs) (nI ot) (nI J) 0 S' ∧ dO S' (ouL o ((List.range ind).flatMap (outI item bg ind c.2.1.length) ++ lnB c i J)) ∧ lyD S S' := by
    intro a b
    unfold gj211_251
    obtain ⟨V, v1, v2, v3⟩ := g211_n hM h1 h2 ho hb a b ((List.range ind).flatMap (outI item bg ind c.2.1.length)) (by omega) k103 x1 x2 x3 x4 (bZ item) (nI fs) (nI ot) (bZ bg) (nI ind) (J - i) xFuel 0 U (by omega) (pFuel _ (by omega)) CU (by simpa using u2)
    exact ⟨V, v1, v2, DTU.tr v3⟩
  by_cases hn : c.2.1.length ≤ i
  · rw [if_pos hn] at hJ
    rw [if_pos (nI_le hn (by omega))]
    have := fin (by omega) (by omega)
    rw [show J - i = 0 by omega] at this
    exact this
  · rw [if_neg hn] at hJ
    have hti := ht i (by omega)
    have e64 : U.2 64 i = nI (J - i) := by
      rw [DTU.2 64 (by decide), (P.2 i (Nat.zero_le _) (by omega)).1, Nat.sub_zero, hJ]
    rw [if_neg (nI_ge (by omega) (by omega)), ld_64 (by omega), e64]
    simp only [bS]
    exact fin (by omega) (by omega)
theorem lnB_len (hM : ckM c) (h1 : c.1.length ≤ 700) (h2 : c.2.1.length ≤ 121) {i j : Nat} (hj : j ≤ c.2.1.length) (hij : i ≤ j) : (lnB c i j).length ≤ 821 := by
  rw [lnB_eq]
  have := lnC_len hM i (j - i) (by omega)
  have := hM.le (i := i + (j - i))
  omega
theorem lns_len (hM : ckM c) (h1 : c.1.length ≤ 700) (h2 : c.2.1.length ≤ 121) (hot : ot ≤ 10) {t : List (Nat × Nat)} (ht : ∀ i, i < c.2.1.length → i < (t.getD i (0, 0)).1 ∧ (t.getD i (0, 0)).1 ≤ c.2.1.length) : ∀ m i (o : Ou), ouW o → ouW (lns c ot t m i o) ∧ o.1.length ≤ (lns c ot t m i o).1.length ∧ (lns c ot t m i o).1.length ≤ o.1.length + 840 * m := by
  intro m
  induction m with
  | zero => intro i o ho; exact ⟨ho, Nat.le_refl _, Nat.le_refl _⟩
  | succ m ih =>
    intro i o ho
    rw [lns]
    by_cases h : c.2.1.length ≤ i
    · rw [if_pos h]
      exact ⟨ho, Nat.le_refl _, by omega⟩
    · rw [if_neg h]
      dsimp only
      have hti := ht i (by omega)
      have l1 := lnB_len hM h1 h2 (i := i) hti.2 (by omega)
      obtain ⟨a, b, d⟩ := ih (t.getD i (0, 0)).1 (ouL o ((if i = 0 then [] else List.replicate ot 32) ++ lnB c i (t.getD i (0, 0)).1)) (ouL_w ho _)
      rw [ouL_len, List.length_append] at b d
      have l2 : (if i = 0 then ([] : List Nat) else List.replicate ot 32).length ≤ 10 := by
        split
        · exact Nat.zero_le _
        · rw [List.length_replicate]; omega
      exact ⟨a, by omega, by omega⟩
/-- the further lines of a block -/
theorem g211_l (hM : ckM c) (h1 : c.1.length ≤ 700) (h2 : c.2.1.length ≤ 121) {t : List (Nat × Nat)} (ht : ∀ i, i < c.2.1.length → i < (t.getD i (0, 0)).1 ∧ (t.getD i (0, 0)).1 ≤ c.2.1.length) {item : Bool} (hfs : fs ≤ 10) (hot : ot ≤ 10) (x1 x2 x3 x4 : Int32) : ∀ m n i (o : Ou) (S : mS), c.2.1.length < i + m → m < n → 0 < i → i ≤ c.2.1.length → ouW o → o.1.length + 840 * m < 2 ^ 25 → cS S c.1 c.2.1 → ptS S c.2.1.length 0 t → dO S o → ∃ S', gl211_103 n x1 x2 x3 x4 (bZ item) (nI fs) (nI ot) (nI i) 0 S = some S' ∧ dO S' (lns c ot t m i o) ∧ lyD S S' := by
  intro m
  induction m with
  | zero => intro n i o S hm; intros; omega
  | succ m ih =>
    intro n i o S hm hn hi0 hi ho hb C P D
    obtain ⟨n, rfl⟩ : ∃ k, n = k + 1 := ⟨n - 1, by omega⟩
    rw [gl211_103, lns]
    dsimp only
    rw [if_pos (Eq.refl (0 : Int32)), C.2.1]
    by_cases h : c.2.1.length ≤ i
    · rw [if_pos (nI_le h (by omega)), if_pos h]
      exact ⟨S, rfl, D, df.rfl'⟩
    · rw [if_neg (nI_ge (by omega) (by omega)), if_neg h, if_neg (show ¬ i = 0 by omega)]
      have hti := ht i (by omega)
      have l1 := lnB_len hM h1 h2 (i := i) hti.2 (by omega)
      obtain ⟨U, u1, u2, u3⟩ := g211_1 (fs := fs) (ot := ot) (item := item) (bg := false) hM h1 h2 ht ho (by omega) hfs hot (fun _ h9 => by cases h9) hi (J := (t.getD i (0, 0)).1) (by rw [if_neg h]) (gl211_103 n) x1 x2 x3 x4 C P D
      rw [show bZ false = 0 from rfl] at u1
      rw [u1]
      rw [if_neg (show ¬ false = true by decide), outI_f] at u2
      obtain ⟨V, v1, v2, v3⟩ := ih n (t.getD i (0, 0)).1 _ U (by omega) (by omega) (by omega) hti.2 (ouL_w ho _) (by rw [ouL_len, List.length_append, List.length_replicate]; omega) (cS_df u3 (by decide) C) ⟨by rw [u3.2 65 (by decide)]; exact P.1, fun j j1 j2 => by rw [u3.2 64 (by decide), u3.2 65 (by decide)]; exact P.2 j j1 j2⟩ u2
      exact ⟨V, v1, v2, u3.tr v3⟩
/-- the state of a page in the making -/
def pR (N : Nat) (S : mS) (d : Dr) : Prop := dO S d.1 ∧ ouW d.1 ∧ tS S d.2.1 ∧ tOK N d.2.1 ∧ S.1 48 = nI d.2.2
abbrev pgD (S S' : mS) : Prop := df [45, 47, 48, 49, 51, 61, 63] [44, 46, 50, 60, 62, 64, 65] S S'
theorem mEs_pg {S' : mS} (D : pgD S S') (H : mEs S es) (w : wE es) : mEs S' es := mEs_df D ⟨by decide, by decide⟩ H w
theorem dO_df {J K : List Nat} {S' : mS} {o : Ou} (D : df J K S S') (h : 45 ∉ J ∧ 47 ∉ J ∧ 49 ∉ J ∧ 44 ∉ K ∧ 46 ∉ K) (M : dO S o) : dO S' o := by
  obtain ⟨⟨a, b⟩, ⟨d, e⟩, f⟩ := M
  obtain ⟨h1, h2, h3, h4, h5⟩ := h
  exact ⟨⟨by rw [D.1 45 h1]; exact a, fun i hi h9 => by rw [D.2 44 h4]; exact b i hi h9⟩, ⟨by rw [D.1 47 h2]; exact d, fun i hi h9 => by rw [D.2 46 h5]; exact e i hi h9⟩, fun h9 => by rw [D.1 49 h3]; exact f h9⟩
theorem plan_t (hw : w ≤ 60) : ∀ i, i < c.2.1.length → i < ((plan c w fs ot ls c.2.1.length).getD i (0, 0)).1 ∧ ((plan c w fs ot ls c.2.1.length).getD i (0, 0)).1 ≤ c.2.1.length := fun i hi => by
  have := plan_b (c := c) (w := w) (fs := fs) (ot := ot) (ls := ls) hw c.2.1.length (Nat.le_refl _) i hi
  omega
/-- the head of a block -/
def lyH (b : Bk) (n : Nat) : List Nat := if bSo b = 1 then List.replicate (2 * bDe b) 32 ++ [45] ++ (if n = 0 then [] else [32]) else []
def lyF (b : Bk) : Nat := if bSo b = 1 then 2 * bDe b + 2 else 0
def lyO (b : Bk) : Nat := if bSo b = 1 then lyF b else if isTg (bSo b) = true then 4 else 0
theorem layB_eq (w : Nat) (ls : Bool) (e : Nat) (m : Cm) (b : Bk) (d : Dr) : layB es w ls e m b d = ((if (cks es e m b d.2.1).2.1.length = 0 then ouL d.1 (lyH b (cks es e m b d.2.1).2.1.length) else lns (cks es e m b d.2.1) (lyO b) (plan (cks es e m b d.2.1) w (lyF b) (lyO b) ls (cks es e m b d.2.1).2.1.length) 130 ((plan (cks es e m b d.2.1) w (lyF b) (lyO b) ls (cks es e m b d.2.1).2.1.length).getD 0 (0, 0)).1 (ouL d.1 (lyH b (cks es e m b d.2.1).2.1.length ++ lnB (cks es e m b d.2.1) 0 ((plan (cks es e m b d.2.1) w (lyF b) (lyO b) ls (cks es e m b d.2.1).2.1.length).getD 0 (0, 0)).1))), (cks es e m b d.2.1).2.2, d.2.2 + ((plan (cks es e m b d.2.1) w (lyF b) (lyO b) ls (cks es e m b d.2.1).2.1.length).getD 0 (0, 0)).2) := rfl
theorem lyH_len {b : Bk} (h : bDe b ≤ 2) (n : Nat) : (lyH b n).length ≤ 6 := by
  unfold lyH
  split
  · simp
    split <;> simp <;> omega
  · simp
theorem layB_len (w0 : wE es) {e j : Nat} (he : e < es.length) (hj : j < (gC es e).2.1.length) (hw : w ≤ 60) {d : Dr} (ho : ouW d.1) : ouW (layB es w ls e (gC es e) ((gC es e).2.1.getD j bkD) d).1 ∧ d.1.1.length ≤ (layB es w ls e (gC es e) ((gC es e).2.1.getD j bkD) d).1.1.length ∧ (layB es w ls e (gC es e) ((gC es e).2.1.getD j bkD) d).1.1.length ≤ d.1.1.length + 120000 ∧ (layB es w ls e (gC es e) ((gC es e).2.1.getD j bkD) d).2.2 ≤ d.2.2 + 435600 := by
  have wc : wC (gC es e) := by
    unfold gC at hj ⊢
    cases hc : eCm (gE es e) with
    | none => rw [hc] at hj; exact absurd hj (Nat.not_lt_zero _)
    | some c => exact (w0.2 e he).2.2.2.2.2.2.2.2 c hc
  have hb := wc.2.2.2.1 _ (gD_mem (d := bkD) hj)
  have hl := cks_len (ts := d.2.1) w0 he hj
  have hM := cks_m (es := es) e (gC es e) ((gC es e).2.1.getD j bkD) d.2.1
  rw [layB_eq]
  generalize (gC es e).2.1.getD j bkD = b at hb hl hM ⊢
  generalize cks es e (gC es e) b d.2.1 = c at hl hM ⊢
  have hH := lyH_len hb.2.2.1 c.2.1.length
  have hO : lyO b ≤ 10 := by
    have := hb.2.2.1
    unfold lyO lyF
    split
    · omega
    · split <;> omega
  have ht := plan_t (c := c) (w := w) (fs := lyF b) (ot := lyO b) (ls := ls) hw
  dsimp only
  have hs : ((plan c w (lyF b) (lyO b) ls c.2.1.length).getD 0 (0, 0)).2 ≤ 435600 := by
    by_cases h0 : 0 < c.2.1.length
    · have := (plan_b (c := c) (w := w) (fs := lyF b) (ot := lyO b) (ls := ls) hw c.2.1.length (Nat.le_refl _) 0 h0).1
      omega
    · rw [List.getD_eq_getElem?_getD, List.getElem?_eq_none (by rw [plan_len]; omega)]
      exact Nat.zero_le _
  refine ⟨?_, ?_, ?_, by omega⟩
  all_goals
    by_cases h0 : c.2.1.length = 0
    · rw [if_pos h0]
      first
        | exact ouL_w ho _
        | (rw [ouL_len]; omega)
    · rw [if_neg h0]
      have ht0 := ht 0 (by omega)
      have l1 := lnB_len hM (by omega) (by omega) (i := 0) ht0.2 (by omega)
      have l2 := lns_len hM (show c.1.length ≤ 700 by omega) (by omega) hO ht 130 ((plan c w (lyF b) (lyO b) ls c.2.1.length).getD 0 (0, 0)).1 (ouL d.1 (lyH b c.2.1.length ++ lnB c 0 ((plan c w (lyF b) (lyO b) ls c.2.1.length).getD 0 (0, 0)).1)) (ouL_w ho _)
      have l3 := l2.2
      rw [ouL_len, List.length_append] at l3
      first
        | exact l2.1
        | omega
/-- a block -/
theorem g211_s (H : mEs S es) (w0 : wE es) {e j : Nat} (he : e < es.length) (hj : j < (gC es e).2.1.length) (h7 : bSo ((gC es e).2.1.getD j bkD) ≠ 7) (hw : w ≤ 60) {d : Dr} (R : pR es.length S d) (hb : d.1.1.length < 2 ^ 24) (hs : d.2.2 < 2 ^ 29) : ∃ S', g211 (nI e) (nI (24 * e + j)) (nI w) (bZ ls) S = some S' ∧ pR es.length S' (layB es w ls e (gC es e) ((gC es e).2.1.getD j bkD) d) ∧ pgD S S' := by
  have w1 := w0.1
  obtain ⟨D, ho, T, hT, h48⟩ := R
  obtain ⟨S1, a1, ⟨a2, a3, a4⟩, a5⟩ := g207_s H w0 he hj h7 T hT
  have hl := cks_len (ts := d.2.1) w0 he hj
  have hM := cks_m (es := es) e (gC es e) ((gC es e).2.1.getD j bkD) d.2.1
  have hbl := (layB_len (w := w) (ls := ls) w0 he hj hw (d := d) ho).1
  obtain ⟨_, _, _, _, n3, _⟩ := mEn_cm (mEs_ck a5 H w0) w0 he
  obtain ⟨b1, b2⟩ := n3 j hj
  obtain ⟨_, _, n4, _⟩ := mEn_cm H w0 he
  rw [layB_eq] at hbl ⊢
  generalize (gC es e).2.1.getD j bkD = b at b1 b2 h7 a2 a3 a4 hl hM hbl ⊢
  generalize cks es e (gC es e) b d.2.1 = c at a2 a3 a4 hl hM hbl ⊢
  have D1 := dO_df a5 (by decide) D
  have hde := b2.2.2.1
  have hso := b2.1
  unfold g211
  rw [a1]
  simp only [bS]
  rw [ld_16 (by omega), b1.1]
  simp only [bS]
  -- indents
  have hF : lyF b ≤ 6 := by unfold lyF; split <;> omega
  have hO : lyO b ≤ 6 := by
    unfold lyO
    split
    · exact hF
    · split <;> omega
  have e69 : (if nI (bSo b) = 1 then gj211_21 (nI e) (nI (24 * e + j)) (nI w) (bZ ls) 1 S1 else gj211_21 (nI e) (nI (24 * e + j)) (nI w) (bZ ls) 0 S1) = gj211_69 (nI e) (nI (24 * e + j)) (nI w) (bZ ls) (bZ (decide (bSo b = 1))) (nI (lyF b)) (nI (lyO b)) S1 := by
    unfold lyO lyF gj211_21 gj211_42
    rw [ld_17 (by omega), b1.2.1, ld_16 (by omega), b1.1]
    simp only [bS]
    by_cases h1 : bSo b = 1
    · rw [if_pos (show nI (bSo b) = 1 by rw [h1]; rfl), decide_eq_true h1, if_pos h1, if_pos h1, if_neg (show ¬ (1 : Int32) = 0 by decide), if_neg (show ¬ (1 : Int32) = 0 by decide), lt_2, pk_mul, nI_add]
      rfl
    · rw [if_neg (show ¬ _ = (1 : Int32) from nI_ne h1 (by omega) (by decide)), decide_eq_false h1, if_neg h1, if_neg h1, if_pos trivial, if_pos trivial]
      by_cases h2 : bSo b ≤ 1
      · rw [if_pos (show nI (bSo b) ≤ 1 from nI_le (b := 1) h2 (by decide)), if_neg (by simp [isTg]; omega)]
        rfl
      · rw [if_neg (show ¬ nI (bSo b) ≤ 1 from nI_ge (a := 1) (by omega) (by omega)), if_pos (by simp [isTg]; omega)]
        rfl
  rw [e69]
  unfold gj211_69
  obtain ⟨S2, c1, c2, c3⟩ := g210_s (ls := ls) (w := w) (fs := lyF b) (ot := lyO b) a2 hM (by omega) hl.2 hw ⟨by omega, by omega⟩
  rw [c1]
  simp only [bS]
  have ht := plan_t (c := c) (w := w) (fs := lyF b) (ot := lyO b) (ls := ls) hw
  have hp0 := ptS_cost c2 (by rw [plan_len]; omega) (Nat.le_refl 0) (Nat.zero_le _)
  rw [Nat.sub_zero] at hp0
  rw [show (0 : Int32) = nI 0 from rfl, ld_65 (by decide), hp0]
  simp only [bS]
  have e48 : S2.1 48 = nI d.2.2 := by rw [c3.1 48 (by simp), a5.1 48 (by decide)]; exact h48
  rw [e48, nI_add]
  generalize hpl : plan c w (lyF b) (lyO b) ls c.2.1.length = t at c2 ht hbl ⊢
  obtain ⟨S3, hS3⟩ : ∃ S3, S3 = sPut S2 48 (nI (d.2.2 + (t.getD 0 (0, 0)).2)) := ⟨_, rfl⟩
  rw [← hS3]
  have D23 : df [48] [] S2 S3 := by rw [hS3]; exact df.put (by decide)
  have s48 : S3.1 48 = nI (d.2.2 + (t.getD 0 (0, 0)).2) := by rw [hS3]; rfl
  clear hS3
  have C3 := cS_df D23 (by decide) (cS_df c3 (by decide) a2)
  have P3 : ptS S3 c.2.1.length 0 t := ⟨by rw [D23.2 65 (by simp)]; exact c2.1, fun j j1 j2 => by rw [D23.2 64 (by simp), D23.2 65 (by simp)]; exact c2.2 j j1 j2⟩
  have D3 := dO_df D23 (by decide) (dO_df c3 (by decide) D1)
  have T3 := tS_df D23 (by decide) (tS_df c3 (by decide) a3)
  have G3 : pgD S S3 := ((a5.mono (by decide) (by decide)).tr (c3.mono (by decide) (by decide))).tr (D23.mono (by decide) (by decide))
  -- the first line
  have ehd : (List.range (if true = true then lyF b else lyO b)).flatMap (outI (decide (bSo b = 1)) true (if true = true then lyF b else lyO b) c.2.1.length) = lyH b c.2.1.length := by
    rw [if_pos (Eq.refl true)]
    unfold lyF lyH
    by_cases h1 : bSo b = 1
    · rw [if_pos h1, decide_eq_true h1, outI_t, if_pos h1]
    · rw [if_neg h1, if_neg h1]
      rfl
  obtain ⟨S4, d1, d2, d3⟩ := g211_1 (fs := lyF b) (ot := lyO b) (item := decide (bSo b = 1)) (bg := true) hM (by omega) hl.2 ht ho (by omega) (by omega) (by omega) (fun h9 _ => by
    have h9 : bSo b = 1 := of_decide_eq_true h9
    unfold lyF
    rw [if_pos h9]
    omega) (i := 0) (Nat.zero_le _) (Eq.refl _) (gl211_103 999999) (nI e) (nI (24 * e + j)) (nI w) (bZ ls) C3 P3 D3
  rw [ehd] at d2
  have C4 := cS_df d3 (by decide) C3
  have P4 : ptS S4 c.2.1.length 0 t := ⟨by rw [d3.2 65 (by decide)]; exact P3.1, fun j j1 j2 => by rw [d3.2 64 (by decide), d3.2 65 (by decide)]; exact P3.2 j j1 j2⟩
  have T4 := tS_df d3 (by decide) T3
  have s4 : S4.1 48 = nI (d.2.2 + (t.getD 0 (0, 0)).2) := by rw [d3.1 48 (by decide)]; exact s48
  have G4 : pgD S S4 := G3.tr (d3.mono (by decide) (by decide))
  have e103 : gl211_103 xFuel (nI e) (nI (24 * e + j)) (nI w) (bZ ls) (bZ (decide (bSo b = 1))) (nI (lyF b)) (nI (lyO b)) (nI 0) 1 S3 = gl211_103 999999 (nI e) (nI (24 * e + j)) (nI w) (bZ ls) (bZ (decide (bSo b = 1))) (nI (lyF b)) (nI (lyO b)) (nI (if c.2.1.length ≤ 0 then 0 else (t.getD 0 (0, 0)).1)) 0 S4 := by
    rw [xF1, gl211_103]
    dsimp only
    rw [if_neg (show ¬ (1 : Int32) = 0 by decide)]
    exact d1
  rw [e103]
  have hH := lyH_len hde c.2.1.length
  by_cases h0 : c.2.1.length = 0
  · rw [if_pos (show c.2.1.length ≤ 0 by omega)] at d2 ⊢
    rw [show (999999 : Nat) = 999998 + 1 from rfl, gl211_103]
    dsimp only
    rw [if_pos (Eq.refl (0 : Int32)), C4.2.1, if_pos (nI_le (by omega) (by decide))]
    rw [if_pos h0] at hbl ⊢
    refine ⟨S4, rfl, ⟨?_, hbl, T4, a4, s4⟩, G4⟩
    have e0 : lnB c 0 0 = [] := rfl
    rw [e0, List.append_nil] at d2
    exact d2
  · rw [if_neg (show ¬ c.2.1.length ≤ 0 by omega)] at d2 ⊢
    rw [if_neg h0] at hbl ⊢
    have ht0 := ht 0 (by omega)
    have l1 := lnB_len hM (by omega) (by omega) (i := 0) ht0.2 (by omega)
    obtain ⟨S5, f1, f2, f3⟩ := g211_l (fs := lyF b) (ot := lyO b) (item := decide (bSo b = 1)) hM (by omega) hl.2 ht (by omega) (by omega) (nI e) (nI (24 * e + j)) (nI w) (bZ ls) 130 999999 (t.getD 0 (0, 0)).1 _ S4 (by omega) (by decide) (by omega) ht0.2 (ouL_w ho _) (by rw [ouL_len, List.length_append]; omega) C4 P4 d2
    rw [f1]
    exact ⟨S5, rfl, ⟨f2, hbl, tS_df f3 (by decide) T4, a4, by rw [f3.1 48 (by decide)]; exact s4⟩, G4.tr (f3.mono (by decide) (by decide))⟩
end PMLB
