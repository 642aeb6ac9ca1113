section PMCHK
variable {S : mS} {by' cf ts : List Nat} {es : List En}
theorem mark_len {o : Option Nat} : (mark ts o).1.length ≤ 4 := by
  cases o with
  | none => show [91, 63, 93].length ≤ 4; decide
  | some e => unfold mark; dsimp only; split <;> simp
theorem pCos_drop : ∀ (l : List Pc) a, pCos (l.drop a) ≤ pCos l := by
  intro l
  induction l with
  | nil => intro a; simp
  | cons p l ih =>
    intro a
    cases a with
    | zero => exact Nat.le_refl _
    | succ a =>
      have := ih a
      simp only [List.drop_succ_cons, pCos]
      omega
theorem pCos_take : ∀ (l : List Pc) a, pCos (l.take a) ≤ pCos l := by
  intro l
  induction l with
  | nil => intro a; simp
  | cons p l ih =>
    intro a
    cases a with
    | zero => exact Nat.zero_le _
    | succ a =>
      have := ih a
      simp only [List.take_succ_cons, pCos]
      omega
theorem cut_le {bs : List Nat} {a z : Nat} : (cut bs a z).length ≤ z - a := by
  simp [cut]
  omega
theorem ckPc_len (e : Nat) (bs : List Nat) (c : Ck) (p : Pc) : (ckPc es e bs c p).1.length ≤ c.1.length + pCo p ∧ (ckPc es e bs c p).2.1.length ≤ c.2.1.length + 1 := by
  unfold ckPc pCo
  dsimp only
  have h1 := cut_le (bs := bs) (a := pSf p) (z := pSt p)
  constructor
  · rw [List.length_append, List.length_append]
    by_cases h : pSo p = 2
    · have := mark_len (ts := c.2.2) (o := lead es e (cut bs (pNf p) (pNt p)))
      rw [if_pos h, if_pos h]
      omega
    · rw [if_neg h, if_neg h]
      simp
      omega
  · split
    · omega
    · simp
theorem fold_len (e : Nat) (bs : List Nat) : ∀ (ps : List Pc) (c : Ck), (ps.foldl (ckPc es e bs) c).1.length ≤ c.1.length + pCos ps ∧ (ps.foldl (ckPc es e bs) c).2.1.length ≤ c.2.1.length + ps.length := by
  intro ps
  induction ps with
  | nil => intro c; exact ⟨Nat.le_refl _, Nat.le_refl _⟩
  | cons p ps ih =>
    intro c
    have h1 := ih (ckPc es e bs c p)
    have h2 := ckPc_len (es := es) e bs c p
    rw [List.foldl_cons]
    simp only [pCos, List.length_cons]
    omega
abbrev ckD (S S' : mS) : Prop := df [51, 61, 63] [50, 60, 62] S S'
theorem mEs_ck {S' : mS} (D : ckD S S') (H : mEs S es) (w : wE es) : mEs S' es := mEs_df D ⟨by decide, by decide⟩ H w
/-- the pieces of a block -/
theorem g207_p (w : wE es) {e j : Nat} (he : e < es.length) (hj : j < (gC es e).2.1.length) (x3 : Int32) : ∀ m n i (k : Ck) (S : mS), i + m = bMa ((gC es e).2.1.getD j bkD) → m < n → mEs S es → cS S k.1 k.2.1 → tS S k.2.2 → tOK es.length k.2.2 → k.1.length + pCos ((((gC es e).2.2.drop (bFi ((gC es e).2.1.getD j bkD))).take (bMa ((gC es e).2.1.getD j bkD))).drop i) ≤ 2900 → k.2.1.length + m ≤ 129 → ∃ S', gl207_149 n (nI e) (nI (24 * e + j)) x3 (nI i) S = some S' ∧ (cS S' (((((gC es e).2.2.drop (bFi ((gC es e).2.1.getD j bkD))).take (bMa ((gC es e).2.1.getD j bkD))).drop i).foldl (ckPc es e (gC es e).1) k).1 (((((gC es e).2.2.drop (bFi ((gC es e).2.1.getD j bkD))).take (bMa ((gC es e).2.1.getD j bkD))).drop i).foldl (ckPc es e (gC es e).1) k).2.1 ∧ tS S' (((((gC es e).2.2.drop (bFi ((gC es e).2.1.getD j bkD))).take (bMa ((gC es e).2.1.getD j bkD))).drop i).foldl (ckPc es e (gC es e).1) k).2.2 ∧ tOK es.length (((((gC es e).2.2.drop (bFi ((gC es e).2.1.getD j bkD))).take (bMa ((gC es e).2.1.getD j bkD))).drop i).foldl (ckPc es e (gC es e).1) k).2.2) ∧ ckD S S' := by
  have w1 := w.1
  intro m
  induction m with
  | zero =>
    intro n i k S hi hn H C T hT hb hc
    obtain ⟨n, rfl⟩ : ∃ m, n = m + 1 := ⟨n - 1, by omega⟩
    obtain ⟨_, _, n1, n2, n3, n4, _⟩ := mEn_cm H w he
    obtain ⟨b1, b2⟩ := n3 j hj
    have b4 := b2.2.2.2.1
    rw [gl207_149]
    dsimp only
    rw [ld_19 (by omega), b1.2.2.2.1]
    simp only [bS]
    rw [if_pos (nI_le (by omega) (by omega)), List.drop_eq_nil_of_le (by rw [List.length_take]; omega)]
    exact ⟨S, rfl, ⟨C, T, hT⟩, df.rfl'⟩
  | succ m ih =>
    intro n i k S hi hn H C T hT hb hc
    obtain ⟨n, rfl⟩ : ∃ m, n = m + 1 := ⟨n - 1, by omega⟩
    obtain ⟨_, _, n1, n2, n3, n4, _⟩ := mEn_cm H w he
    obtain ⟨b1, b2⟩ := n3 j hj
    have b4 := b2.2.2.2.1
    have ih2 := ih n (i + 1)
    generalize (gC es e).2.1.getD j bkD = b at b1 b4 hi ih2 hb ⊢
    obtain ⟨p1, p2⟩ := n4 (bFi b + i) (by omega)
    have ei : (((gC es e).2.2.drop (bFi b)).take (bMa b)).drop i = (gC es e).2.2.getD (bFi b + i) pcD :: (((gC es e).2.2.drop (bFi b)).take (bMa b)).drop (i + 1) := by
      rw [List.drop_eq_getElem_cons (by rw [List.length_take, List.length_drop]; omega)]
      congr 1
      rw [List.getElem_take, List.getElem_drop, List.getD_eq_getElem?_getD, List.getElem?_eq_getElem (by omega)]
      rfl
    rw [ei] at hb ⊢
    generalize (((gC es e).2.2.drop (bFi b)).take (bMa b)).drop (i + 1) = rest at hb ih2 ⊢
    generalize (gC es e).2.2.getD (bFi b + i) pcD = p at p1 p2 hb ⊢
    rw [List.foldl_cons]
    simp only [pCos] at hb
    obtain ⟨p3, p4, p5, p6, p7, p8, p9⟩ := p1
    obtain ⟨y1, y2, y3, y4, y5, y6, y7⟩ := p2
    rw [gl207_149]
    dsimp only
    rw [ld_19 (by omega), b1.2.2.2.1]
    simp only [bS]
    rw [if_neg (nI_ge (by omega) (by omega)), ld_18 (by omega), b1.2.2.1, lt_120, pk_mul]
    simp only [bS, nI_add]
    rw [show 120 * e + bFi b + i = 120 * e + (bFi b + i) by omega, ld_28 (by omega), p7]
    simp only [bS, bZ_0]
    have hlen := ckPc_len (es := es) e (gC es e).1 k p
    -- behind the chunk's beginning
    have go : ∀ (U : mS), ckD S U → cS U k.1 (if pGl p = true then k.2.1 else k.2.1 ++ [k.1.length]) → tS U k.2.2 → ∃ S', gj207_190 (gl207_149 n) (nI e) (nI (24 * e + j)) x3 (nI i) (nI (120 * e + (bFi b + i))) U = some S' ∧ (cS S' (rest.foldl (ckPc es e (gC es e).1) (ckPc es e (gC es e).1 k p)).1 (rest.foldl (ckPc es e (gC es e).1) (ckPc es e (gC es e).1 k p)).2.1 ∧ tS S' (rest.foldl (ckPc es e (gC es e).1) (ckPc es e (gC es e).1 k p)).2.2 ∧ tOK es.length (rest.foldl (ckPc es e (gC es e).1) (ckPc es e (gC es e).1 k p)).2.2) ∧ ckD S S' := by
      intro U DU CU TU
      have HU := mEs_ck DU H w
      obtain ⟨_, _, _, _, _, u4, uA, _⟩ := mEn_cm HU w he
      have q26 : U.2 26 (120 * e + (bFi b + i)) = nI (pSf p) := by rw [DU.2 26 (by decide)]; exact p5
      have q27 : U.2 27 (120 * e + (bFi b + i)) = nI (pSt p - pSf p) := by rw [DU.2 27 (by decide)]; exact p6
      have hpc : pSt p - pSf p ≤ pCo p := by unfold pCo; omega
      unfold gj207_190
      rw [ld_26 (by omega), q26, ld_27 (by omega), q27]
      simp only [bS]
      obtain ⟨V, v1, v2, v3⟩ := g204_s (N := 0) uA (by omega) y3 y4 CU (by omega)
      rw [v1]
      simp only [bS]
      have DV : ckD S V := DU.tr (v3.mono (by decide) (by decide))
      have HV := mEs_ck DV H w
      have TV := tS_df v3 (by decide) TU
      have z24 : V.2 24 (120 * e + (bFi b + i)) = nI (pSo p) := by rw [DV.2 24 (by decide)]; exact p3
      have z29 : V.2 29 (120 * e + (bFi b + i)) = nI (pNf p) := by rw [DV.2 29 (by decide)]; exact p8
      have z30 : V.2 30 (120 * e + (bFi b + i)) = nI (pNt p - pNf p) := by rw [DV.2 30 (by decide)]; exact p9
      rw [ld_24 (by omega), z24]
      simp only [bS, gj207_253, nI_1]
      by_cases h2 : pSo p = 2
      · rw [if_pos (show nI (pSo p) = 2 by rw [h2]; rfl), ld_29 (by omega), z29, ld_30 (by omega), z30]
        simp only [bS]
        rw [lt_600, pk_mul, nI_add, lead_s HV w he y5 y6 (y7 h2)]
        simp only [bS]
        have ll : ∀ t, lead es e (cut (gC es e).1 (pNf p) (pNt p)) = some t → t < es.length := fun t ht => lead_lt w ht
        have hpc2 : pSt p - pSf p + 4 = pCo p := by unfold pCo; rw [if_pos h2]
        obtain ⟨W, x1, x2, x4, x5⟩ := g206_s v2 TV hT ll (by rw [List.length_append, cut_len y4]; omega)
        rw [x1]
        simp only [bS]
        have ek : ckPc es e (gC es e).1 k p = (k.1 ++ cut (gC es e).1 (pSf p) (pSt p) ++ (mark k.2.2 (lead es e (cut (gC es e).1 (pNf p) (pNt p)))).1, if pGl p = true then k.2.1 else k.2.1 ++ [k.1.length], (mark k.2.2 (lead es e (cut (gC es e).1 (pNf p) (pNt p)))).2) := by
          unfold ckPc
          dsimp only
          rw [if_pos h2]
        have DW : ckD S W := DV.tr (x5.mono (by decide) (by decide))
        obtain ⟨X, z1, z2, z3⟩ := ih2 (ckPc es e (gC es e).1 k p) W (by omega) (by omega) (mEs_ck DW H w) (by rw [ek]; exact x2) (by rw [ek]; exact x4) (by rw [ek]; exact (mark_ok hT ll).1) (by omega) (by omega)
        exact ⟨X, z1, z2, DW.tr z3⟩
      · rw [if_neg (show ¬ _ = (2 : Int32) from nI_ne h2 (by omega) (by decide))]
        have ek : ckPc es e (gC es e).1 k p = (k.1 ++ cut (gC es e).1 (pSf p) (pSt p), if pGl p = true then k.2.1 else k.2.1 ++ [k.1.length], k.2.2) := by
          unfold ckPc
          dsimp only
          rw [if_neg h2, List.append_nil]
        obtain ⟨X, z1, z2, z3⟩ := ih2 (ckPc es e (gC es e).1 k p) V (by omega) (by omega) HV (by rw [ek]; exact v2) (by rw [ek]; exact TV) (by rw [ek]; exact hT) (by omega) (by omega)
        exact ⟨X, z1, z2, DV.tr z3⟩
    cases hg : pGl p with
    | true =>
      rw [if_neg (show ¬ true = false by decide)]
      exact go S df.rfl' (by rw [hg, if_pos (Eq.refl true)]; exact C) T
    | false =>
      rw [if_pos (Eq.refl false)]
      obtain ⟨U, u1, u2, u3⟩ := g202_s C (by omega)
      rw [u1]
      simp only [bS]
      exact go U (u3.mono (by decide) (by decide)) (by rw [hg, if_neg (by decide)]; exact u2) (tS_df u3 (by decide) T)
theorem rfOK_len {f : Nat → Nat} {i k : Nat} (h : rfOK f i k = true) : k ≤ 21 := by
  have h1 := (rfAt_iff f i k).mp h
  have h2 := (rfAt_le f (i := i) (e := i + k) (by omega)).2
  omega
theorem wB_nm {f : Nat → Nat} {n k : Nat} {b : Bk} (w : wB f n k b) (h : isTg (bSo b) = true) (h3 : bSo b ≠ 3) : bNt b - bNf b ≤ 21 := by
  obtain ⟨x1, x2, x3, x4, x5, x6, x7, x8, x9⟩ := w
  simp [isTg] at h
  by_cases h2 : bSo b = 2
  · have := (nmOK_NB (x8 h2)).2.1
    omega
  · by_cases h6 : bSo b = 6
    · have := x9 h6
      simp [nuOK] at this
      omega
    · exact rfOK_len (x7 (by omega))
theorem ckHd_len {f : Nat → Nat} {e n k : Nat} {bs : List Nat} {b : Bk} (w : wB f n k b) : (ckHd es e bs b ts).1.length ≤ 32 ∧ (ckHd es e bs b ts).2.1.length ≤ 1 := by
  unfold ckHd
  by_cases h : isTg (bSo b) = true
  · rw [if_pos h]
    dsimp only
    refine ⟨?_, by decide⟩
    have l1 : (wTag (bSo b)).length ≤ 6 := by
      unfold wTag
      repeat' split
      all_goals decide
    have l2 : (if bSo b = 4 ∨ bSo b = 5 then mark ts (lead es e (cut bs (bNf b) (bNt b))) else (([] : List Nat), ts)).1.length ≤ 4 := by
      split
      · exact mark_len
      · exact Nat.zero_le _
    have l3 : (if bSo b = 3 then [] else 32 :: cut bs (bNf b) (bNt b)).length ≤ 22 := by
      by_cases h3 : bSo b = 3
      · rw [if_pos h3]
        decide
      · have := wB_nm w h h3
        have := cut_le (bs := bs) (a := bNf b) (z := bNt b)
        rw [if_neg h3, List.length_cons]
        omega
    rw [List.length_append, List.length_append]
    omega
  · rw [if_neg h]
    exact ⟨Nat.zero_le _, Nat.zero_le _⟩
theorem cks_len (w : wE es) {e j : Nat} (he : e < es.length) (hj : j < (gC es e).2.1.length) : (cks es e (gC es e) ((gC es e).2.1.getD j bkD) ts).1.length ≤ 640 ∧ (cks es e (gC es e) ((gC es e).2.1.getD j bkD) ts).2.1.length ≤ 121 := by
  have wc : wC (gC es e) := by
    unfold gC at hj ⊢
    cases hc : eCm (gE es e) with
    | none => rw [hc] at hj; exact absurd hj (Nat.not_lt_zero _)
    | some c => exact (w.2 e he).2.2.2.2.2.2.2.2 c hc
  obtain ⟨t1, v1, v2, v3, v4, v5, _⟩ := wc
  have hb := v3 _ (gD_mem (d := bkD) hj)
  have t2 := t1.1
  unfold cks
  have h1 := ckHd_len (es := es) (ts := ts) (e := e) (bs := (gC es e).1) hb
  have h2 := fold_len (es := es) e (gC es e).1 (((gC es e).2.2.drop (bFi ((gC es e).2.1.getD j bkD))).take (bMa ((gC es e).2.1.getD j bkD))) (ckHd es e (gC es e).1 ((gC es e).2.1.getD j bkD) ts)
  have h3 := pCos_take ((gC es e).2.2.drop (bFi ((gC es e).2.1.getD j bkD))) (bMa ((gC es e).2.1.getD j bkD))
  have h4 := pCos_drop (gC es e).2.2 (bFi ((gC es e).2.1.getD j bkD))
  have h5 := hb.2.2.2.1
  rw [List.length_take] at h2
  omega
/-- the chunks of a block -/
theorem g207_s (H : mEs S es) (w : wE es) {e j : Nat} (he : e < es.length) (hj : j < (gC es e).2.1.length) (h7 : bSo ((gC es e).2.1.getD j bkD) ≠ 7) (T : tS S ts) (hT : tOK es.length ts) : ∃ S', g207 (nI e) (nI (24 * e + j)) S = some S' ∧ (cS S' (cks es e (gC es e) ((gC es e).2.1.getD j bkD) ts).1 (cks es e (gC es e) ((gC es e).2.1.getD j bkD) ts).2.1 ∧ tS S' (cks es e (gC es e) ((gC es e).2.1.getD j bkD) ts).2.2 ∧ tOK es.length (cks es e (gC es e) ((gC es e).2.1.getD j bkD) ts).2.2) ∧ ckD S S' := by
  have w1 := w.1
  have wc : wC (gC es e) := by
    unfold gC at hj ⊢
    cases hc : eCm (gE es e) with
    | none => rw [hc] at hj; exact absurd hj (Nat.not_lt_zero _)
    | some c => exact (w.2 e he).2.2.2.2.2.2.2.2 c hc
  obtain ⟨t1, v1, v2, v3, v4, v5, _⟩ := wc
  have hb := v3 _ (gD_mem (d := bkD) hj)
  have t2 := t1.1
  have hcos : pCos (((gC es e).2.2.drop (bFi ((gC es e).2.1.getD j bkD))).take (bMa ((gC es e).2.1.getD j bkD))) ≤ 600 := by
    have h3 := pCos_take ((gC es e).2.2.drop (bFi ((gC es e).2.1.getD j bkD))) (bMa ((gC es e).2.1.getD j bkD))
    have h4 := pCos_drop (gC es e).2.2 (bFi ((gC es e).2.1.getD j bkD))
    omega
  have hma : bMa ((gC es e).2.1.getD j bkD) ≤ 120 := by have := hb.2.2.2.1; omega
  have hd1 := ckHd_len (es := es) (ts := ts) (e := e) (bs := (gC es e).1) hb
  obtain ⟨_, _, _, _, n3, _⟩ := mEn_cm H w he
  obtain ⟨b1, b2⟩ := n3 j hj
  -- behind the head
  have tail : ∀ (U : mS), ckD S U → cS U (ckHd es e (gC es e).1 ((gC es e).2.1.getD j bkD) ts).1 (ckHd es e (gC es e).1 ((gC es e).2.1.getD j bkD) ts).2.1 → tS U (ckHd es e (gC es e).1 ((gC es e).2.1.getD j bkD) ts).2.2 → tOK es.length (ckHd es e (gC es e).1 ((gC es e).2.1.getD j bkD) ts).2.2 → ∀ x3, ∃ S', gj207_146 (nI e) (nI (24 * e + j)) x3 U = some S' ∧ (cS S' (cks es e (gC es e) ((gC es e).2.1.getD j bkD) ts).1 (cks es e (gC es e) ((gC es e).2.1.getD j bkD) ts).2.1 ∧ tS S' (cks es e (gC es e) ((gC es e).2.1.getD j bkD) ts).2.2 ∧ tOK es.length (cks es e (gC es e) ((gC es e).2.1.getD j bkD) ts).2.2) ∧ ckD S S' := by
    intro U DU CU TU hU x3
    unfold gj207_146
    obtain ⟨V, z1, z2, z3⟩ := g207_p w he hj x3 (bMa ((gC es e).2.1.getD j bkD)) xFuel 0 (ckHd es e (gC es e).1 ((gC es e).2.1.getD j bkD) ts) U (by omega) (pFuel _ (by omega)) (mEs_ck DU H w) CU TU hU (by rw [List.drop_zero]; omega) (by omega)
    rw [List.drop_zero] at z2
    exact ⟨V, z1, z2, DU.tr z3⟩
  generalize (gC es e).2.1.getD j bkD = b at b1 b2 hb h7 hma hd1 tail ⊢
  obtain ⟨x1, x2, x3, x4, x5, x6, x7, x8, x9⟩ := b2
  unfold g207
  simp only [bS]
  have q16 : (sPut (sPut S 61 0) 63 0).2 16 (24 * e + j) = nI (bSo b) := b1.1
  rw [ld_16 (by omega), q16]
  simp only [bS]
  have D0 : ckD S (sPut (sPut S 61 0) 63 0) := (df.put (by decide)).tr (df.put (by decide))
  have C0 : cS (sPut (sPut S 61 0) 63 0) [] [] := ⟨⟨rfl, fun i hi => absurd hi (Nat.not_lt_zero _)⟩, rfl, fun i hi => absurd hi (Nat.not_lt_zero _)⟩
  have T0 : tS (sPut (sPut S 61 0) 63 0) ts := T
  by_cases h1 : bSo b ≤ 1
  · rw [if_pos (show nI (bSo b) ≤ 1 from nI_le (b := 1) h1 (by decide))]
    have eh : ckHd es e (gC es e).1 b ts = ([], [], ts) := by
      unfold ckHd
      rw [if_neg (by simp [isTg]; omega)]
    refine tail _ D0 (by rw [eh]; exact C0) (by rw [eh]; exact T0) (by rw [eh]; exact hT) _
  · rw [if_neg (show ¬ nI (bSo b) ≤ 1 from nI_ge (a := 1) (by omega) (by omega))]
    have htg : isTg (bSo b) = true := by
      simp [isTg]
      omega
    obtain ⟨U, u1, u2, u3⟩ := g202_s C0 (by decide)
    rw [u1]
    simp only [bS]
    have DU : ckD S U := D0.tr (u3.mono (by decide) (by decide))
    have TU := tS_df u3 (by decide) T0
    -- behind the word
    have word : ∀ (V : mS), ckD S V → cS V (wTag (bSo b)) [0] → tS V ts → ∃ S', (if nI (bSo b) = 3 then gj207_105 (nI e) (nI (24 * e + j)) (nI (bSo b)) V else (g203 32 V).bind fun S_5 => (sLd S_5 21 (nI (24 * e + j))).bind fun v_6 => (sLd S_5 22 (nI (24 * e + j))).bind fun v_7 => (g204 (nI e) v_6 v_7 S_5).bind fun S_9 => gj207_105 (nI e) (nI (24 * e + j)) (nI (bSo b)) S_9) = some S' ∧ (cS S' (cks es e (gC es e) b ts).1 (cks es e (gC es e) b ts).2.1 ∧ tS S' (cks es e (gC es e) b ts).2.2 ∧ tOK es.length (cks es e (gC es e) b ts).2.2) ∧ ckD S S' := by
      intro V DV CV TV
      have l1 : (wTag (bSo b)).length ≤ 6 := by
        unfold wTag
        repeat' split
        all_goals decide
      -- the target
      have tg : ∀ (W : mS) (b2 : List Nat), ckD S W → b2 = wTag (bSo b) ++ (if bSo b = 3 then [] else 32 :: cut (gC es e).1 (bNf b) (bNt b)) → b2.length ≤ 100 → cS W b2 [0] → tS W ts → ∃ S', gj207_105 (nI e) (nI (24 * e + j)) (nI (bSo b)) W = some S' ∧ (cS S' (cks es e (gC es e) b ts).1 (cks es e (gC es e) b ts).2.1 ∧ tS S' (cks es e (gC es e) b ts).2.2 ∧ tOK es.length (cks es e (gC es e) b ts).2.2) ∧ ckD S S' := by
        intro W b2 DW hb2 hl2 CW TW
        have eh : ckHd es e (gC es e).1 b ts = (b2 ++ (if bSo b = 4 ∨ bSo b = 5 then mark ts (lead es e (cut (gC es e).1 (bNf b) (bNt b))) else ([], ts)).1, [0], (if bSo b = 4 ∨ bSo b = 5 then mark ts (lead es e (cut (gC es e).1 (bNf b) (bNt b))) else ([], ts)).2) := by
          unfold ckHd
          rw [if_pos htg, hb2]
        have sw : ∀ X Y : Option mS, (if nI (bSo b) = 4 then X else if nI (bSo b) = 5 then X else Y) = if bSo b = 4 ∨ bSo b = 5 then X else Y := fun X Y => by
          by_cases h3 : bSo b = 4
          · rw [if_pos (show nI (bSo b) = 4 by rw [h3]; rfl), if_pos (Or.inl h3)]
          · rw [if_neg (show ¬ _ = (4 : Int32) from nI_ne h3 (by omega) (by decide))]
            by_cases h6 : bSo b = 5
            · rw [if_pos (show nI (bSo b) = 5 by rw [h6]; rfl), if_pos (Or.inr h6)]
            · rw [if_neg (show ¬ _ = (5 : Int32) from nI_ne h6 (by omega) (by decide)), if_neg (by omega)]
        unfold gj207_105
        rw [sw]
        by_cases h45 : bSo b = 4 ∨ bSo b = 5
        · rw [if_pos h45] at eh ⊢
          unfold gj207_115
          have q21 : W.2 21 (24 * e + j) = nI (bNf b) := by rw [DW.2 21 (by decide)]; exact b1.2.2.2.2.2.1
          have q22 : W.2 22 (24 * e + j) = nI (bNt b - bNf b) := by rw [DW.2 22 (by decide)]; exact b1.2.2.2.2.2.2.1
          rw [ld_21 (by omega), q21, ld_22 (by omega), q22]
          simp only [bS]
          rw [lt_600, pk_mul, nI_add, lead_s (mEs_ck DW H w) w he x5 x6 (x7 h45)]
          simp only [bS]
          have ll : ∀ t, lead es e (cut (gC es e).1 (bNf b) (bNt b)) = some t → t < es.length := fun t ht => lead_lt w ht
          obtain ⟨X, z1, z2, z3, z4⟩ := g206_s CW TW hT ll (by omega)
          rw [z1]
          simp only [bS]
          exact tail X (DW.tr (z4.mono (by decide) (by decide))) (by rw [eh]; exact z2) (by rw [eh]; exact z3) (by rw [eh]; exact (mark_ok hT ll).1) _
        · rw [if_neg h45]
          rw [if_neg h45, List.append_nil] at eh
          exact tail W DW (by rw [eh]; exact CW) (by rw [eh]; exact TW) (by rw [eh]; exact hT) _
      by_cases h3 : bSo b = 3
      · rw [if_pos (show nI (bSo b) = 3 by rw [h3]; rfl)]
        exact tg V (wTag (bSo b)) DV (by rw [if_pos h3, List.append_nil]) (by omega) CV TV
      · have hn := wB_nm hb htg h3
        rw [if_neg (show ¬ _ = (3 : Int32) from nI_ne h3 (by omega) (by decide))]
        obtain ⟨W, z1, z2, z3⟩ := g203_s CV (by omega) 32
        rw [show (32 : Int32) = nI 32 from rfl, z1]
        simp only [bS]
        have DW : ckD S W := DV.tr (z3.mono (by decide) (by decide))
        have q21 : W.2 21 (24 * e + j) = nI (bNf b) := by rw [DW.2 21 (by decide)]; exact b1.2.2.2.2.2.1
        have q22 : W.2 22 (24 * e + j) = nI (bNt b - bNf b) := by rw [DW.2 22 (by decide)]; exact b1.2.2.2.2.2.2.1
        rw [ld_21 (by omega), q21, ld_22 (by omega), q22]
        simp only [bS]
        obtain ⟨_, _, _, _, _, _, uA, _⟩ := mEn_cm (mEs_ck DW H w) w he
        obtain ⟨X, y1, y2, y3⟩ := g204_s (N := 0) uA (by omega) x5 x6 z2 (by simp; omega)
        rw [y1]
        simp only [bS]
        have hc := cut_le (bs := (gC es e).1) (a := bNf b) (z := bNt b)
        refine tg X _ (DW.tr (y3.mono (by decide) (by decide))) ?_ ?_ y2 (tS_df y3 (by decide) (tS_df z3 (by decide) TV))
        · rw [if_neg h3]
          simp
        · rw [List.length_append, List.length_append, List.length_singleton]
          omega
    have wd : ∀ (W : Int64) (l : List Nat), hB W l → (l.reverse.filter fun c => decide (0 < c)) = wTag (bSo b) → ∃ S', gj207_74 (nI e) (nI (24 * e + j)) (nI (bSo b)) W U = some S' ∧ (cS S' (cks es e (gC es e) b ts).1 (cks es e (gC es e) b ts).2.1 ∧ tS S' (cks es e (gC es e) b ts).2.2 ∧ tOK es.length (cks es e (gC es e) b ts).2.2) ∧ ckD S S' := by
      intro W l hW hl
      unfold gj207_74
      obtain ⟨V, z1, z2, z3⟩ := g205_s hW u2 (by decide)
      rw [z1, hl] at *
      simp only [bS]
      rw [List.nil_append] at z2
      exact word V (DU.tr (z3.mono (by decide) (by decide))) z2 (tS_df z3 (by decide) TU)
    by_cases s2 : bSo b = 2
    · rw [if_pos (show nI (bSo b) = 2 by rw [s2]; rfl)]
      exact wd _ _ hB_2 (by rw [s2]; decide)
    rw [if_neg (show ¬ _ = (2 : Int32) from nI_ne s2 (by omega) (by decide))]
    by_cases s3 : bSo b = 3
    · rw [if_pos (show nI (bSo b) = 3 by rw [s3]; rfl)]
      exact wd _ _ hB_3 (by rw [s3]; decide)
    rw [if_neg (show ¬ _ = (3 : Int32) from nI_ne s3 (by omega) (by decide))]
    by_cases s4 : bSo b = 4
    · rw [if_pos (show nI (bSo b) = 4 by rw [s4]; rfl)]
      exact wd _ _ hB_4 (by rw [s4]; decide)
    rw [if_neg (show ¬ _ = (4 : Int32) from nI_ne s4 (by omega) (by decide))]
    by_cases s5 : bSo b = 5
    · rw [if_pos (show nI (bSo b) = 5 by rw [s5]; rfl)]
      exact wd _ _ hB_5 (by rw [s5]; decide)
    rw [if_neg (show ¬ _ = (5 : Int32) from nI_ne s5 (by omega) (by decide))]
    exact wd _ _ hB_6 (by rw [show bSo b = 6 by omega]; decide)
end PMCHK
