section PMNO
variable {S : mS} {es : List En}
theorem lead_lt (w : wE es) {e k : Nat} {nm : List Nat} (h : lead es e nm = some k) : k < es.length := by
  unfold lead at h
  dsimp only at h
  split at h
  · exact (mF_lt w _ _ _ _ h).1
  · split at h
    · exact (fE_lt h).1
    · exact (mF_lt w _ _ _ _ h).1
/-- to what a part of the comment leads -/
theorem lead_s (H : mEs S es) (w : wE es) {e nf nt : Nat} (he : e < es.length) (h1 : nf ≤ nt) (h2 : nt ≤ (gC es e).1.length) (hr : rfOK (tx (gC es e).1) nf (nt - nf) = true) : g164 (nI e) 12 (nI (600 * e + nf)) (nI (nt - nf)) S = some (oI (lead es e (cut (gC es e).1 nf nt)), S) := by
  obtain ⟨_, _, _, _, _, _, A, _⟩ := mEn_cm H w he
  have A2 := A.cut (f := tx (gC es e).1) (i := nf) (e := nt) h1 h2 h2
  have := g164_s H w A2 (by rw [rf_cut h2]; exact hr) he
  rw [cut_len h2] at this
  exact this
abbrev ntD (S S' : mS) : Prop := df [73] [71, 72] S S'
/-- dead pieces of a block -/
def dPc (es : List En) (e : Nat) (p : Pc) : Bool := (pSo p == 2) && (lead es e (cut (gC es e).1 (pNf p) (pNt p))).isNone
theorem g222_p (w : wE es) {e j : Nat} (he : e < es.length) (hj : j < (gC es e).2.1.length) (k2 : Int32 → Int32 → mS → Option mS) (x2 : Int32) (l : List (Nat × Nat)) (hl : l.length + bMa ((gC es e).2.1.getD j bkD) ≤ 200) : ∀ m n i (S : mS), i + m = bMa ((gC es e).2.1.getD j bkD) → m < n → mEs S es → mNt S (l ++ (((((gC es e).2.2.drop (bFi ((gC es e).2.1.getD j bkD))).take i).filter (dPc es e)).map fun p => (2, pPl p))) → ∃ S', gl222_84 k2 n (nI e) x2 (nI (24 * e + j)) (nI i) S = k2 (nI e) (x2 + 1) S' ∧ mNt S' (l ++ (((((gC es e).2.2.drop (bFi ((gC es e).2.1.getD j bkD))).take (bMa ((gC es e).2.1.getD j bkD))).filter (dPc es e)).map fun p => (2, pPl p))) ∧ ntD S S' := by
  have w1 := w.1
  intro m
  induction m with
  | zero =>
    intro n i S hi hn H M
    obtain ⟨n, rfl⟩ : ∃ m, n = m + 1 := ⟨n - 1, by omega⟩
    obtain ⟨_, _, n1, n2, n3, n4, _⟩ := mEn_cm H w he
    obtain ⟨b1, b2⟩ := n3 j hj
    have b4 := b2.2.2.2.1
    rw [gl222_84]
    dsimp only
    rw [ld_19 (by omega), b1.2.2.2.1]
    simp only [bS]
    rw [if_pos (nI_le (by omega) (by omega))]
    rw [show i = bMa ((gC es e).2.1.getD j bkD) by omega] at M
    exact ⟨S, rfl, M, df.rfl'⟩
  | succ m ih =>
    intro n i S hi hn H M
    obtain ⟨n, rfl⟩ : ∃ m, n = m + 1 := ⟨n - 1, by omega⟩
    obtain ⟨_, _, n1, n2, n3, n4, _⟩ := mEn_cm H w he
    obtain ⟨b1, b2⟩ := n3 j hj
    have b4 := b2.2.2.2.1
    have ih2 := ih n (i + 1)
    generalize (gC es e).2.1.getD j bkD = b at b1 b4 hl hi ih2 M ⊢
    obtain ⟨p1, p2⟩ := n4 (bFi b + i) (by omega)
    have ei : (((gC es e).2.2.drop (bFi b)).take (i + 1)) = ((gC es e).2.2.drop (bFi b)).take i ++ [(gC es e).2.2.getD (bFi b + i) pcD] := by
      rw [take_s pcD (by simp; omega)]
      simp [List.getD_eq_getElem?_getD]
    rw [ei, List.filter_append, List.map_append, ← List.append_assoc] at ih2
    have hlen : (l ++ ((((gC es e).2.2.drop (bFi b)).take i).filter (dPc es e)).map fun p => (2, pPl p)).length < 200 := by
      have := List.length_filter_le (dPc es e) (((gC es e).2.2.drop (bFi b)).take i)
      rw [List.length_append, List.length_map]
      rw [List.length_take] at this
      omega
    generalize (gC es e).2.2.getD (bFi b + i) pcD = p at p1 p2 ih2
    obtain ⟨p3, p4, p5, p6, p7, p8, p9⟩ := p1
    have x5 := p2.2.2.2.2.1
    have x6 := p2.2.2.2.2.2.1
    rw [gl222_84]
    dsimp only
    rw [ld_19 (by omega), b1.2.2.2.1]
    simp only [bS]
    rw [if_neg (nI_ge (by omega) (by omega)), ld_18 (by omega), b1.2.2.1, lt_120, pk_mul]
    simp only [bS, nI_add]
    rw [show 120 * e + bFi b + i = 120 * e + (bFi b + i) by omega, ld_24 (by omega), p3]
    simp only [bS]
    by_cases h2 : pSo p = 2
    · rw [if_pos (show nI (pSo p) = 2 by rw [h2]; rfl), ld_29 (by omega), p8, ld_30 (by omega), p9]
      simp only [bS]
      rw [lt_600, pk_mul, nI_add, lead_s H w he x5 x6 (p2.2.2.2.2.2.2 h2)]
      simp only [bS]
      cases hL : lead es e (cut (gC es e).1 (pNf p) (pNt p)) with
      | none =>
        rw [if_pos oI_n, ld_25 (by omega), p4]
        simp only [bS]
        obtain ⟨T, t1, t2, t3⟩ := g219_s M hlen 2 (pPl p)
        rw [show (2 : Int32) = nI 2 from rfl, t1]
        simp only [bS, gj222_167, nI_1]
        have e5 : (([p].filter (dPc es e)).map fun p => (2, pPl p)) = [(2, pPl p)] := by
          have : dPc es e p = true := by unfold dPc; rw [h2, hL]; rfl
          simp [this]
        rw [e5] at ih2
        obtain ⟨U, u1, u2, u3⟩ := ih2 T (by omega) (by omega) (mEs_nt t3 H w) t2
        exact ⟨U, u1, u2, t3.tr u3⟩
      | some t =>
        have := lead_lt w hL
        rw [oI_s, if_neg (nI_nm (by omega))]
        simp only [gj222_167, nI_1]
        have e5 : (([p].filter (dPc es e)).map fun p => (2, pPl p)) = [] := by
          have : dPc es e p = false := by unfold dPc; rw [h2, hL]; rfl
          simp [this]
        rw [e5, List.append_nil] at ih2
        exact ih2 S (by omega) (by omega) H M
    · have := p2.1
      rw [if_neg (show ¬ _ = (2 : Int32) from nI_ne h2 (by omega) (by decide))]
      simp only [gj222_167, nI_1]
      have e5 : (([p].filter (dPc es e)).map fun p => (2, pPl p)) = [] := by
        have : dPc es e p = false := by
          unfold dPc
          rw [show (pSo p == 2) = false from by simpa using h2]
          rfl
        simp [this]
      rw [e5, List.append_nil] at ih2
      exact ih2 S (by omega) (by omega) H M
/-- dead links of a block -/
def dBk (es : List En) (e : Nat) (b : Bk) : List (Nat × Nat) := (if (bSo b = 4 ∨ bSo b = 5) ∧ (lead es e (cut (gC es e).1 (bNf b) (bNt b))).isNone = true then [(2, bPl b)] else []) ++ ((((gC es e).2.2.drop (bFi b)).take (bMa b)).filter (dPc es e)).map fun p => (2, pPl p)
theorem dBk_len (es : List En) (e : Nat) (b : Bk) : (dBk es e b).length ≤ 1 + bMa b := by
  unfold dBk
  rw [List.length_append, List.length_map]
  have h1 := List.length_filter_le (dPc es e) (((gC es e).2.2.drop (bFi b)).take (bMa b))
  rw [List.length_take] at h1
  split <;> simp <;> omega
theorem flatMap_len {f : Bk → List (Nat × Nat)} (h : ∀ b, (f b).length ≤ 1 + bMa b) : ∀ l : List Bk, (l.flatMap f).length ≤ l.length + bMas l := by
  intro l
  induction l with
  | nil => simp
  | cons b l ih =>
    have := h b
    simp only [List.flatMap_cons, List.length_append, List.length_cons, bMas]
    omega
theorem bMas_take : ∀ (l : List Bk) i, i < l.length → bMas (l.take i) + bMa (l.getD i bkD) ≤ bMas l := by
  intro l
  induction l with
  | nil => intro i h; simp at h
  | cons b l ih =>
    intro i h
    cases i with
    | zero => simp [bMas, List.getD_eq_getElem?_getD]
    | succ i =>
      have := ih i (by simpa using h)
      simp only [List.take_succ_cons, bMas, List.getD_cons_succ]
      omega
/-- the links of the own comment -/
theorem g222_s (H : mEs S es) (w : wE es) {e : Nat} (he : e < es.length) {l : List (Nat × Nat)} (hl : l.length ≤ 50) (M : mNt S l) : ∃ S', g222 (nI e) S = some S' ∧ mNt S' (l ++ (gC es e).2.1.flatMap (dBk es e)) ∧ ntD S S' := by
  have w1 := w.1
  have wc : (gC es e).2.1.length ≤ 24 ∧ bMas (gC es e).2.1 ≤ 120 := by
    unfold gC
    cases hc : eCm (gE es e) with
    | none => exact ⟨by decide, by decide⟩
    | some c =>
      have := (w.2 e he).2.2.2.2.2.2.2.2 c hc
      have h9 := this.2.2.2.2.2.2.2.2.2
      have h8 := this.2.1
      have h7 := this.2.2.1
      dsimp only [Option.getD_some]
      exact ⟨h8, by omega⟩
  have key : ∀ m n i (S : mS), i + m = (gC es e).2.1.length → m < n → mEs S es → mNt S (l ++ ((gC es e).2.1.take i).flatMap (dBk es e)) → ∃ S', gl222_2 n (nI e) (nI i) S = some S' ∧ mNt S' (l ++ (gC es e).2.1.flatMap (dBk es e)) ∧ ntD S S' := by
    intro m
    induction m with
    | zero =>
      intro n i S hi hn H M
      obtain ⟨n, rfl⟩ : ∃ m, n = m + 1 := ⟨n - 1, by omega⟩
      obtain ⟨e14, _⟩ := mEn_cm H w he
      rw [gl222_2]
      dsimp only
      rw [ld_14 (by omega), e14]
      simp only [bS]
      rw [if_pos (nI_le (by omega) (by omega))]
      rw [List.take_of_length_le (by omega)] at M
      exact ⟨S, rfl, M, df.rfl'⟩
    | succ m ih =>
      intro n i S hi hn H M
      obtain ⟨n, rfl⟩ : ∃ m, n = m + 1 := ⟨n - 1, by omega⟩
      obtain ⟨e14, _, _, _, n3, _⟩ := mEn_cm H w he
      obtain ⟨b1, b2⟩ := n3 i (by omega)
      have ih2 := ih n (i + 1)
      have hlen := flatMap_len (dBk_len es e) ((gC es e).2.1.take i)
      have ht := bMas_take (gC es e).2.1 i (by omega)
      rw [List.length_take] at hlen
      rw [take_s bkD (by omega), List.flatMap_append, ← List.append_assoc, show List.flatMap (dBk es e) [(gC es e).2.1.getD i bkD] = dBk es e ((gC es e).2.1.getD i bkD) by simp] at ih2
      have M0 := M
      -- the pieces
      have pcs : ∀ (T : mS) (l2 : List (Nat × Nat)), l2.length ≤ 1 → l2 = (if (bSo ((gC es e).2.1.getD i bkD) = 4 ∨ bSo ((gC es e).2.1.getD i bkD) = 5) ∧ (lead es e (cut (gC es e).1 (bNf ((gC es e).2.1.getD i bkD)) (bNt ((gC es e).2.1.getD i bkD)))).isNone = true then [(2, bPl ((gC es e).2.1.getD i bkD))] else []) → mEs T es → mNt T ((l ++ ((gC es e).2.1.take i).flatMap (dBk es e)) ++ l2) → ∃ S', gj222_81 (gl222_2 n) (nI e) (nI i) (nI (24 * e + i)) T = some S' ∧ mNt S' (l ++ (gC es e).2.1.flatMap (dBk es e)) ∧ ntD T S' := by
        intro T l2 h1 h2 HT MT
        unfold gj222_81
        obtain ⟨U, u1, u2, u3⟩ := g222_p w he (j := i) (by omega) (gl222_2 n) (nI i) ((l ++ ((gC es e).2.1.take i).flatMap (dBk es e)) ++ l2) (by rw [List.length_append, List.length_append]; omega) (bMa ((gC es e).2.1.getD i bkD)) xFuel 0 T (by omega) (pFuel _ (by omega)) HT (by simpa using MT)
        rw [show (0 : Int32) = nI 0 from rfl, u1, nI_1]
        rw [List.append_assoc, h2] at u2
        obtain ⟨V, v1, v2, v3⟩ := ih2 U (by omega) (by omega) (mEs_nt u3 HT w) u2
        exact ⟨V, v1, v2, u3.tr v3⟩
      rw [gl222_2]
      dsimp only
      rw [ld_14 (by omega), e14]
      simp only [bS]
      rw [if_neg (nI_ge (by omega) (by omega)), lt_24, pk_mul, nI_add, ld_16 (by omega), b1.1]
      simp only [bS]
      have b8 := b2.1
      have sw : ∀ X Y : Option mS, (if nI (bSo ((gC es e).2.1.getD i bkD)) = 4 then X else if nI (bSo ((gC es e).2.1.getD i bkD)) = 5 then X else Y) = if bSo ((gC es e).2.1.getD i bkD) = 4 ∨ bSo ((gC es e).2.1.getD i bkD) = 5 then X else Y := fun X Y => by
        generalize bSo ((gC es e).2.1.getD i bkD) = so at b8
        by_cases h3 : so = 4
        · rw [if_pos (show nI so = 4 by rw [h3]; rfl), if_pos (Or.inl h3)]
        · rw [if_neg (show ¬ _ = (4 : Int32) from nI_ne h3 (by omega) (by decide))]
          by_cases h6 : so = 5
          · rw [if_pos (show nI so = 5 by rw [h6]; rfl), if_pos (Or.inr h6)]
          · rw [if_neg (show ¬ _ = (5 : Int32) from nI_ne h6 (by omega) (by decide)), if_neg (by omega)]
      rw [sw]
      by_cases h45 : bSo ((gC es e).2.1.getD i bkD) = 4 ∨ bSo ((gC es e).2.1.getD i bkD) = 5
      · rw [if_pos h45]
        unfold gj222_39
        rw [ld_21 (by omega), b1.2.2.2.2.2.1, ld_22 (by omega), b1.2.2.2.2.2.2.1]
        simp only [bS]
        rw [lt_600, pk_mul, nI_add, lead_s H w he b2.2.2.2.2.1 b2.2.2.2.2.2.1 (b2.2.2.2.2.2.2.1 h45)]
        simp only [bS]
        cases hL : lead es e (cut (gC es e).1 (bNf ((gC es e).2.1.getD i bkD)) (bNt ((gC es e).2.1.getD i bkD))) with
        | none =>
          rw [if_pos oI_n, ld_20 (by omega), b1.2.2.2.2.1]
          simp only [bS]
          obtain ⟨T, t1, t2, t3⟩ := g219_s M (by rw [List.length_append]; omega) 2 (bPl ((gC es e).2.1.getD i bkD))
          rw [show (2 : Int32) = nI 2 from rfl, t1]
          simp only [bS]
          obtain ⟨V, v1, v2, v3⟩ := pcs T [(2, bPl ((gC es e).2.1.getD i bkD))] (Nat.le_refl 1) (by rw [if_pos ⟨h45, by rw [hL]; rfl⟩]) (mEs_nt t3 H w) t2
          exact ⟨V, v1, v2, t3.tr v3⟩
        | some t =>
          have := lead_lt w hL
          rw [oI_s, if_neg (nI_nm (by omega))]
          exact pcs S [] (by decide) (by rw [if_neg]; rw [hL]; simp) H (by simpa using M)
      · rw [if_neg h45]
        exact pcs S [] (by decide) (by rw [if_neg fun h9 => h45 h9.1]) H (by simpa using M)
  exact key (gC es e).2.1.length xFuel 0 S (by omega) (pFuel _ (by omega)) H (by simpa using M)
end PMNO
