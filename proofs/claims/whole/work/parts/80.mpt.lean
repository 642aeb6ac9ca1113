section PMPT
variable {S : mS} {c : Ck} {w fs ot : Nat} {ls : Bool}
abbrev ptD (S S' : mS) : Prop := df [] [64, 65] S S'
theorem g208_s (C : cS S c.1 c.2.1) (hM : ckM c) (h1 : c.1.length ≤ 700) (h2 : c.2.1.length ≤ 121) {k : Nat} (hk : k < c.2.1.length) : g208 (nI k) S = some (nI (cks0 c (k + 1) - cks0 c k), S) := by
  obtain ⟨⟨a, b⟩, d, e⟩ := C
  have hs := hM.s hk
  unfold g208 gj208_25
  rw [d, nI_1, a, ld_62 (by omega), e k hk, ← cks0_in hk]
  simp only [bS]
  by_cases h : c.2.1.length ≤ k + 1
  · rw [if_pos (nI_le h (by omega))]
    rw [cks0_out h] at hs ⊢
    rw [pk_sub hs]
  · rw [if_neg (nI_ge (by omega) (by omega)), ld_62 (by omega), e (k + 1) (by omega), ← cks0_in (show k + 1 < c.2.1.length by omega)]
    simp only [bS]
    rw [pk_sub hs]
theorem g209_s {a b : Nat} (ha : a ≤ 60) (hb : b < 2 ^ 20) : g209 (nI a - nI b) S = some (nI ((a - b) * (a - b)), S) := by
  unfold g209 gj209_11
  by_cases h : b ≤ a
  · rw [pk_sub h, if_pos (nI_pos' (by omega)), pk_mul]
  · rw [if_neg (fun h9 => absurd (pk_sneg (a := a) (b := b) (by omega) (by omega)) (Int32.not_lt.mpr h9)), show a - b = 0 by omega]
    rfl
/-- what is known of the lines from chunk i on -/
def ptS (S : mS) (n i : Nat) (t : List (Nat × Nat)) : Prop := S.2 65 n = 0 ∧ ∀ j, i ≤ j → j < n → S.2 64 j = nI ((t.getD (j - i) (0, 0)).1 - j) ∧ S.2 65 j = nI (t.getD (j - i) (0, 0)).2
theorem ptS_cost {n i : Nat} {t : List (Nat × Nat)} (P : ptS S n i t) (ht : t.length + i = n) {j : Nat} (h1 : i ≤ j) (h2 : j ≤ n) : S.2 65 j = nI (t.getD (j - i) (0, 0)).2 := by
  by_cases h : j < n
  · exact (P.2 j h1 h).2
  · obtain rfl : j = n := by omega
    rw [P.1, List.getD_eq_getElem?_getD, List.getElem?_eq_none (by omega)]
    rfl
/-- the ends of a line from chunk i on -/
theorem g210_i (hM : ckM c) (h1 : c.1.length ≤ 700) (h2 : c.2.1.length ≤ 121) (hw : w ≤ 60) (hf : fs ≤ 10 ∧ ot ≤ 10) {i : Nat} (hi : i < c.2.1.length) (t : List (Nat × Nat)) (htl : t.length + (i + 1) = c.2.1.length) (htb : ∀ m, (t.getD m (0, 0)).2 ≤ 3600 * 130) (k18 : Int32 → Int32 → Int32 → Int32 → Int32 → mS → Option mS) : ∀ m n J (S : mS), J + m = c.2.1.length → m + 1 < n → i < J → cS S c.1 c.2.1 → ptS S c.2.1.length (i + 1) t → S.2 64 i = nI ((bJ ls (plF c w fs ot i t) i J).1 - i) → S.2 65 i = nI (bJ ls (plF c w fs ot i t) i J).2 → ∃ S', gl210_50 k18 n (nI w) (nI fs) (nI ot) (bZ ls) (nI i) (nI (cols c fs ot i J)) 1 (nI J) S = k18 (nI w) (nI fs) (nI ot) (bZ ls) (nI i + (-1)) S' ∧ ptS S' c.2.1.length (i + 1) t ∧ (S'.2 64 i = nI ((bJ ls (plF c w fs ot i t) i (fill c w fs ot i J m)).1 - i) ∧ S'.2 65 i = nI (bJ ls (plF c w fs ot i t) i (fill c w fs ot i J m)).2) ∧ ptD S S' := by
  have cb : ∀ J, cols c fs ot i J ≤ 900 + J := fun J => by
    have := hM.le (i := J)
    unfold cols
    split <;> omega
  have fb : ∀ x, plF c w fs ot i t x < 2 ^ 30 := fun x => by
    have b1 := bdn_le (c := c) (fs := fs) (ot := ot) hw (i := i) (j := x)
    have b2 := htb (x - (i + 1))
    unfold plF
    omega
  intro m
  induction m with
  | zero =>
    intro n J S hJ hn hiJ C P a b
    obtain ⟨n, rfl⟩ : ∃ k, n = k + 1 := ⟨n - 1, by omega⟩
    rw [gl210_50]
    dsimp only
    rw [C.2.1, if_pos (nI_le (by omega) (by omega))]
    exact ⟨S, rfl, P, ⟨a, b⟩, df.rfl'⟩
  | succ m ih =>
    intro n J S hJ hn hiJ C P a b
    obtain ⟨n, rfl⟩ : ∃ k, n = k + 1 := ⟨n - 1, by omega⟩
    have cJ := cb J
    have cs := cols_s (fs := fs) (ot := ot) hM hiJ (show J < c.2.1.length by omega)
    rw [gl210_50, fill]
    dsimp only
    rw [C.2.1, if_neg (nI_ge (by omega) (by omega)), if_neg (show ¬ (1 : Int32) = 0 by decide), g208_s C hM h1 h2 (by omega)]
    simp only [bS]
    rw [if_neg (nI_ge hiJ (by omega))]
    unfold gj210_84
    rw [if_neg (nI_ne (show ¬ J = i by omega) (by omega) (by omega)), nI_1, nI_add, ← cs]
    have cJ1 := cb (J + 1)
    by_cases hfit : cols c fs ot i (J + 1) ≤ w
    · rw [if_neg (nI_nlt hfit (by omega)), if_pos hfit]
      unfold gj210_101 gj210_106
      rw [if_neg (show ¬ (1 : Int32) = 0 by decide), C.2.1]
      -- the cost
      have hb := bJ_s ls (plF c w fs ot i t) hiJ
      obtain ⟨x, x1, x2, x3⟩ := bJ_in ls (plF c w fs ot i t) hiJ
      have fbJ := fb (J + 1)
      have fbx := fb x
      have upd : ∀ (s0 : Int32), s0 = nI (plF c w fs ot i t (J + 1)) → ∃ S', gj210_146 k18 (gl210_50 k18 n) (nI w) (nI fs) (nI ot) (bZ ls) (nI i) (nI (cols c fs ot i (J + 1))) 1 (nI J) s0 S = k18 (nI w) (nI fs) (nI ot) (bZ ls) (nI i + (-1)) S' ∧ ptS S' c.2.1.length (i + 1) t ∧ (S'.2 64 i = nI ((bJ ls (plF c w fs ot i t) i (fill c w fs ot i (J + 1) m)).1 - i) ∧ S'.2 65 i = nI (bJ ls (plF c w fs ot i t) i (fill c w fs ot i (J + 1) m)).2) ∧ ptD S S' := by
        intro s0 hs0
        rw [hs0]
        have e175 : (ls = true → ¬ (bJ ls (plF c w fs ot i t) i J).2 < plF c w fs ot i t (J + 1)) → ∃ S', gj210_175 k18 (gl210_50 k18 n) (nI w) (nI fs) (nI ot) (bZ ls) (nI i) (nI (cols c fs ot i (J + 1))) 1 (nI J) (nI (plF c w fs ot i t (J + 1))) S = k18 (nI w) (nI fs) (nI ot) (bZ ls) (nI i + (-1)) S' ∧ ptS S' c.2.1.length (i + 1) t ∧ (S'.2 64 i = nI ((bJ ls (plF c w fs ot i t) i (fill c w fs ot i (J + 1) m)).1 - i) ∧ S'.2 65 i = nI (bJ ls (plF c w fs ot i t) i (fill c w fs ot i (J + 1) m)).2) ∧ ptD S S' := by
          intro hno
          rw [if_neg (fun h9 => hno h9.1 h9.2)] at hb
          unfold gj210_175 gj210_198
          rw [st_64 (by omega), pk_sub (show i ≤ J by omega), nI_1]
          simp only [bS]
          rw [st_65 (by omega)]
          simp only [bS, nI_1]
          have D : ptD S (sSet (sSet S 64 i (nI (J - i + 1))) 65 i (nI (plF c w fs ot i t (J + 1)))) := (df.set (by decide)).tr (df.set (by decide))
          obtain ⟨U, u1, u2, u3, u4⟩ := ih n (J + 1) _ (by omega) (by omega) (by omega) (cS_df D (by decide) C) ⟨by rw [sS_ne (by omega), sS_ne (by omega)]; exact P.1, fun j j1 j2 => by rw [sS_ne (by omega), sS_ne (by omega), sS_ne (by omega), sS_ne (by omega)]; exact P.2 j j1 j2⟩ (by rw [sS_ne (by omega), sS_eq, hb]; dsimp only; congr 1; omega) (by rw [sS_eq, hb])
          exact ⟨U, u1, u2, u3, D.tr u4⟩
        unfold gj210_146
        cases ls with
        | false =>
          rw [if_pos bZf]
          exact e175 fun h9 => by cases h9
        | true =>
          rw [if_neg bZt, ld_64 (by omega), a, x3]
          simp only [bS]
          rw [if_neg (nI_ne0 (by omega) (by omega)), ld_65 (by omega), b, x3]
          simp only [bS]
          by_cases h5 : plF c w fs ot i t x < plF c w fs ot i t (J + 1)
          · rw [if_pos (nI_lt h5 (by omega))]
            unfold gj210_198
            rw [nI_1]
            have hb2 := hb
            rw [if_pos ⟨Eq.refl true, by rw [x3]; exact h5⟩] at hb2
            exact ih n (J + 1) S (by omega) (by omega) (by omega) C P (by rw [hb2]; exact a) (by rw [hb2]; exact b)
          · rw [if_neg (nI_nlt (by omega) (by omega))]
            exact e175 fun _ => by rw [x3]; exact h5
      rw [nI_s1 (by omega)]
      by_cases hl : J = c.2.1.length - 1
      · rw [if_pos (by rw [← hl])]
        refine upd 0 ?_
        have : plF c w fs ot i t (J + 1) = 0 := by
          unfold plF bdn
          rw [if_neg (by omega), List.getD_eq_getElem?_getD, List.getElem?_eq_none (by omega)]
          rfl
        rw [this]
        rfl
      · rw [if_neg (nI_ne hl (by omega) (by omega)), g209_s hw (by omega)]
        simp only [bS]
        rw [nI_1, ld_65 (by omega), ptS_cost P htl (by omega) (by omega)]
        simp only [bS]
        rw [nI_add]
        refine upd _ ?_
        unfold plF bdn
        rw [if_pos (by omega)]
    · rw [if_pos (nI_lt (by omega) (by omega)), if_neg hfit]
      unfold gj210_106
      rw [if_pos (Eq.refl (0 : Int32))]
      unfold gj210_198
      rw [nI_1]
      obtain ⟨n, rfl⟩ : ∃ k, n = k + 1 := ⟨n - 1, by omega⟩
      rw [gl210_50]
      dsimp only
      rw [if_pos (Eq.refl (0 : Int32)), ite_self]
      exact ⟨S, rfl, P, ⟨a, b⟩, df.rfl'⟩
/-- all chunks -/
theorem g210_l (hM : ckM c) (h1 : c.1.length ≤ 700) (h2 : c.2.1.length ≤ 121) (hw : w ≤ 60) (hf : fs ≤ 10 ∧ ot ≤ 10) : ∀ k n (x5 : Int32) r (S : mS), r + k = c.2.1.length → k < n → (k = 0 → x5 = -1) → (∀ j, k = j + 1 → x5 = nI j) → cS S c.1 c.2.1 → ptS S c.2.1.length k (plan c w fs ot ls r) → ∃ S', gl210_18 n (nI w) (nI fs) (nI ot) (bZ ls) x5 S = some S' ∧ ptS S' c.2.1.length 0 (plan c w fs ot ls c.2.1.length) ∧ ptD S S' := by
  intro k
  induction k with
  | zero =>
    intro n x5 r S hr hn hx _ C P
    obtain ⟨n, rfl⟩ : ∃ k, n = k + 1 := ⟨n - 1, by omega⟩
    rw [gl210_18]
    dsimp only
    rw [hx rfl, if_pos (by decide)]
    obtain rfl : r = c.2.1.length := by omega
    exact ⟨S, rfl, P, df.rfl'⟩
  | succ k ih =>
    intro n x5 r S hr hn _ hx C P
    obtain ⟨n, rfl⟩ : ∃ k, n = k + 1 := ⟨n - 1, by omega⟩
    have ei : c.2.1.length - (r + 1) = k := by omega
    have hs := plan_s (c := c) (w := w) (fs := fs) (ot := ot) (ls := ls) r
    rw [ei] at hs
    have htl : (plan c w fs ot ls r).length + (k + 1) = c.2.1.length := by rw [plan_len]; omega
    have htb : ∀ m, ((plan c w fs ot ls r).getD m (0, 0)).2 ≤ 3600 * 130 := fun m => by
      by_cases hm : m < r
      · have := (plan_b (c := c) (w := w) (fs := fs) (ot := ot) (ls := ls) hw r (by omega) m hm).1
        omega
      · rw [List.getD_eq_getElem?_getD, List.getElem?_eq_none (by rw [plan_len]; omega)]
        exact Nat.zero_le _
    rw [gl210_18]
    dsimp only
    rw [hx k rfl, if_neg (nI_pos (by omega))]
    -- one chunk
    have one : ∀ used : Nat, used = (if k = 0 then fs else ot) → ∃ S', gj210_33 (gl210_18 n) (nI w) (nI fs) (nI ot) (bZ ls) (nI k) (nI used) S = some S' ∧ ptS S' c.2.1.length 0 (plan c w fs ot ls c.2.1.length) ∧ ptD S S' := by
      intro used hu
      have hub : used ≤ 10 := by rw [hu]; split <;> omega
      unfold gj210_33
      rw [st_64 (by omega)]
      simp only [bS]
      have D0 : ptD S (sSet S 64 k 0) := df.set (by decide)
      have C0 := cS_df D0 (by decide) C
      have P0 : ptS (sSet S 64 k 0) c.2.1.length (k + 1) (plan c w fs ot ls r) := ⟨by rw [sS_ne (by omega)]; exact P.1, fun j j1 j2 => by rw [sS_ne (by omega), sS_ne (by omega)]; exact P.2 j j1 j2⟩
      -- the first chunk of the line
      rw [xF1, gl210_50]
      dsimp only
      rw [C0.2.1, if_neg (nI_ge (show k < c.2.1.length by omega) (by omega)), if_neg (show ¬ (1 : Int32) = 0 by decide), g208_s C0 hM h1 h2 (by omega)]
      simp only [bS]
      have hle := hM.le (i := k + 1)
      have ec : cols c fs ot k (k + 1) = used + ((cks0 c (k + 1) - cks0 c k) + 0) := by rw [cols_0, ← hu]
      rw [if_pos (nI_le (Nat.le_refl k) (by omega))]
      unfold gj210_84
      rw [if_pos (Eq.refl (nI k)), show (0 : Int32) = nI 0 from rfl, nI_add, nI_add, ← ec]
      unfold gj210_101 gj210_106
      rw [if_neg (show ¬ (1 : Int32) = 0 by decide), show (sSet S 64 k (nI 0)).1 63 = nI c.2.1.length from C.2.1]
      have fin : ∀ s0 : Int32, s0 = nI (plF c w fs ot k (plan c w fs ot ls r) (k + 1)) → ∃ S', gj210_146 (gl210_18 n) (gl210_50 (gl210_18 n) 999999) (nI w) (nI fs) (nI ot) (bZ ls) (nI k) (nI (cols c fs ot k (k + 1))) 1 (nI k) s0 (sSet S 64 k (nI 0)) = some S' ∧ ptS S' c.2.1.length 0 (plan c w fs ot ls c.2.1.length) ∧ ptD S S' := by
        intro s0 hs0
        rw [hs0]
        have e146 : gj210_146 (gl210_18 n) (gl210_50 (gl210_18 n) 999999) (nI w) (nI fs) (nI ot) (bZ ls) (nI k) (nI (cols c fs ot k (k + 1))) 1 (nI k) (nI (plF c w fs ot k (plan c w fs ot ls r) (k + 1))) (sSet S 64 k (nI 0)) = gj210_175 (gl210_18 n) (gl210_50 (gl210_18 n) 999999) (nI w) (nI fs) (nI ot) (bZ ls) (nI k) (nI (cols c fs ot k (k + 1))) 1 (nI k) (nI (plF c w fs ot k (plan c w fs ot ls r) (k + 1))) (sSet S 64 k (nI 0)) := by
          unfold gj210_146
          cases ls with
          | false => rw [if_pos bZf]
          | true =>
            rw [if_neg bZt, ld_64 (by omega), sS_eq]
            simp only [bS]
            rw [if_pos (show nI 0 = 0 from rfl)]
        rw [e146]
        unfold gj210_175 gj210_198
        rw [st_64 (by omega), pk_sub (Nat.le_refl k), nI_1, Nat.sub_self]
        simp only [bS]
        rw [st_65 (by omega)]
        simp only [bS, nI_1]
        have D : ptD S (sSet (sSet (sSet S 64 k (nI 0)) 64 k (nI (0 + 1))) 65 k (nI (plF c w fs ot k (plan c w fs ot ls r) (k + 1)))) := ((df.set (by decide)).tr (df.set (by decide))).tr (df.set (by decide))
        have b0 := bJ_0 ls (plF c w fs ot k (plan c w fs ot ls r)) k
        obtain ⟨U, u1, u2, u3, u4⟩ := g210_i (ls := ls) hM h1 h2 hw hf (show k < c.2.1.length by omega) (plan c w fs ot ls r) htl htb (gl210_18 n) (c.2.1.length - (k + 1)) 999999 (k + 1) _ (by omega) (by omega) (by omega) (cS_df D (by decide) C) ⟨by rw [sS_ne (by omega), sS_ne (by omega), sS_ne (by omega)]; exact P.1, fun j j1 j2 => by rw [sS_ne (by omega), sS_ne (by omega), sS_ne (by omega), sS_ne (by omega), sS_ne (by omega), sS_ne (by omega)]; exact P.2 j j1 j2⟩ (by rw [sS_ne (by omega), sS_eq, b0]; dsimp only; congr 1; omega) (by rw [sS_eq, b0])
        rw [u1]
        rw [show fill c w fs ot k (k + 1) (c.2.1.length - (k + 1)) = fst' c w fs ot k from rfl] at u3
        have P2 : ptS U c.2.1.length k (plan c w fs ot ls (r + 1)) := by
          refine ⟨u2.1, fun j j1 j2 => ?_⟩
          rw [hs]
          by_cases hjk : j = k
          · subst hjk
            rw [Nat.sub_self, List.getD_cons_zero]
            exact u3
          · obtain ⟨q, hq⟩ : ∃ q, j - k = q + 1 := ⟨j - k - 1, by omega⟩
            have := u2.2 j (by omega) j2
            rw [hq, List.getD_cons_succ, show q = j - (k + 1) by omega]
            exact this
        obtain ⟨V, v1, v2, v3⟩ := ih n (nI k + (-1)) (r + 1) U (by omega) (by omega) (fun h9 => by subst h9; decide) (fun j hj => by rw [nI_dec (by omega)]; congr 1; omega) (cS_df (D.tr u4) (by decide) C) P2
        exact ⟨V, v1, v2, (D.tr u4).tr v3⟩
      rw [nI_s1 (by omega)]
      by_cases hl : k = c.2.1.length - 1
      · rw [if_pos (by rw [← hl])]
        refine fin 0 ?_
        have : plF c w fs ot k (plan c w fs ot ls r) (k + 1) = 0 := by
          unfold plF bdn
          rw [if_neg (by omega), List.getD_eq_getElem?_getD, List.getElem?_eq_none (by omega)]
          rfl
        rw [this]
        rfl
      · rw [if_neg (nI_ne hl (by omega) (by omega)), g209_s hw (by omega)]
        simp only [bS]
        have e65 : (sSet S 64 k (nI 0)).2 65 (k + 1) = nI ((plan c w fs ot ls r).getD (k + 1 - (k + 1)) (0, 0)).2 := by rw [sS_ne (by omega)]; exact ptS_cost P htl (Nat.le_refl _) (by omega)
        rw [nI_1, ld_65 (by omega), e65]
        simp only [bS]
        rw [nI_add]
        refine fin _ ?_
        unfold plF bdn
        rw [if_pos (by omega)]
    by_cases h0 : k = 0
    · rw [if_pos (show nI k = 0 by rw [h0]; rfl)]
      exact one fs (by rw [if_pos h0])
    · rw [if_neg (nI_ne0 (by omega) (by omega))]
      exact one ot (by rw [if_neg h0])
theorem g210_s (C : cS S c.1 c.2.1) (hM : ckM c) (h1 : c.1.length ≤ 700) (h2 : c.2.1.length ≤ 121) (hw : w ≤ 60) (hf : fs ≤ 10 ∧ ot ≤ 10) : ∃ S', g210 (nI w) (nI fs) (nI ot) (bZ ls) S = some S' ∧ ptS S' c.2.1.length 0 (plan c w fs ot ls c.2.1.length) ∧ ptD S S' := by
  unfold g210
  rw [C.2.1, st_65 (by omega)]
  simp only [bS]
  rw [show (sSet S 65 c.2.1.length 0).1 63 = nI c.2.1.length from C.2.1]
  have D : ptD S (sSet S 65 c.2.1.length 0) := df.set (by decide)
  obtain ⟨U, u1, u2, u3⟩ := g210_l (ls := ls) hM h1 h2 hw hf c.2.1.length xFuel (nI c.2.1.length - 1) 0 _ (by omega) (pFuel _ (by omega)) (fun h9 => by rw [h9]; decide) (fun j hj => by rw [nI_s1 (by omega)]; congr 1; omega) (cS_df D (by decide) C) ⟨sS_eq, fun j j1 j2 => absurd j1 (by omega)⟩
  exact ⟨U, u1, u2, D.tr u3⟩
end PMPT
