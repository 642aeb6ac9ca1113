section PMENT
def pcD : Pc := (0, 0, 0, 0, 0, 0, false)
def mBk (S : mS) (b : Nat) (k : Bk) : Prop := S.2 16 b = nI (bSo k) ∧ S.2 17 b = nI (bDe k) ∧ S.2 18 b = nI (bFi k) ∧ S.2 19 b = nI (bMa k) ∧ S.2 20 b = nI (bPl k) ∧ S.2 21 b = nI (bNf k) ∧ S.2 22 b = nI (bNt k - bNf k) ∧ S.2 23 b = bZ (bJo k)
def mPc (S : mS) (p : Nat) (k : Pc) : Prop := S.2 24 p = nI (pSo k) ∧ S.2 25 p = nI (pPl k) ∧ S.2 26 p = nI (pSf k) ∧ S.2 27 p = nI (pSt k - pSf k) ∧ S.2 28 p = bZ (pGl k) ∧ S.2 29 p = nI (pNf k) ∧ S.2 30 p = nI (pNt k - pNf k)
/-- blocks and pieces at a place -/
def mRd (S : mS) (e : Nat) (r : Rd) : Prop := (S.2 14 e = nI r.1.length ∧ ∀ k, k < r.1.length → mBk S (24 * e + k) (r.1.getD k bkD)) ∧ (S.2 15 e = nI r.2.length ∧ ∀ k, k < r.2.length → mPc S (120 * e + k) (r.2.getD k pcD))
def mCm (S : mS) (e : Nat) (c : Cm) : Prop := S.2 13 e = nI c.1.length ∧ aF S 12 (600 * e) (tx c.1) c.1.length ∧ mRd S e c.2
def mEn (S : mS) (e : Nat) (n : En) : Prop := (S.2 3 e = bZ (eOw n).isNone ∧ S.2 4 e = oI (eOw n) ∧ S.2 5 e = oI (ePa n) ∧ S.2 6 e = bZ (eGv n)) ∧ (S.2 8 e = nI (eNm n).length ∧ aF S 7 (10 * e) (tx (eNm n)) (eNm n).length) ∧ (S.2 9 e = nI (ePs n).length ∧ ∀ k, k < (ePs n).length → S.2 11 (4 * e + k) = nI ((ePs n).getD k []).length ∧ aF S 10 (10 * (4 * e + k)) (tx ((ePs n).getD k [])) ((ePs n).getD k []).length) ∧ match eCm n with
  | none => S.2 13 e = -1 ∧ S.2 14 e = 0 ∧ S.2 15 e = 0
  | some c => mCm S e c
def mEs (S : mS) (es : List En) : Prop := S.1 2 = nI es.length ∧ ∀ e, e < es.length → mEn S e (gE es e)
/-- a text -/
def wT (bs : List Nat) : Prop := bs.length ≤ 600 ∧ ∀ c ∈ bs, c < 256
/-- a block, a piece of a text of n bytes, of k pieces -/
def wB (f : Nat → Nat) (n k : Nat) (b : Bk) : Prop := bSo b ≤ 7 ∧ bPl b < n ∧ bDe b ≤ 2 ∧ bFi b + bMa b ≤ k ∧ bNf b ≤ bNt b ∧ bNt b ≤ n ∧ ((bSo b = 4 ∨ bSo b = 5) → rfOK f (bNf b) (bNt b - bNf b) = true) ∧ (bSo b = 2 → nmOK f (bNf b) (bNt b - bNf b) = true) ∧ (bSo b = 6 → nuOK f (bNf b) (bNt b - bNf b) = true)
def wP (f : Nat → Nat) (n : Nat) (p : Pc) : Prop := pSo p ≤ 2 ∧ pPl p < n ∧ pSf p ≤ pSt p ∧ pSt p ≤ n ∧ pNf p ≤ pNt p ∧ pNt p ≤ n ∧ (pSo p = 2 → rfOK f (pNf p) (pNt p - pNf p) = true)
/-- how many bytes a piece gives at most; all of them -/
def pCo (p : Pc) : Nat := pSt p - pSf p + (if pSo p = 2 then 4 else 0)
def pCos : List Pc → Nat
  | [] => 0
  | p :: q => pCo p + pCos q
/-- a block is joined to an item alone -/
def jOK (l : List Bk) : Prop := ∀ i, i < l.length → bJo (l.getD i bkD) = true → 0 < i ∧ bSo (l.getD (i - 1) bkD) = 1
/-- how many pieces blocks have -/
def bMas : List Bk → Nat
  | [] => 0
  | b :: q => bMa b + bMas q
/-- what has been read up to a -/
def wRd (f : Nat → Nat) (n a : Nat) (r : Rd) : Prop := r.1.length ≤ 24 ∧ r.2.length ≤ 120 ∧ (∀ b ∈ r.1, wB f n r.2.length b) ∧ (∀ p ∈ r.2, wP f n p) ∧ pCos r.2 ≤ a ∧ (r.1.filter fun b => bSo b == 3).length ≤ 1 ∧ (r.1.filter fun b => bSo b == 7).length ≤ 1 ∧ jOK r.1 ∧ bMas r.1 ≤ r.2.length
def wR (f : Nat → Nat) (n : Nat) (r : Rd) : Prop := wRd f n n r
def wC (c : Cm) : Prop := wT c.1 ∧ wR (tx c.1) c.1.length c.2
def wN (l : List Nat) : Prop := nmOK (tx l) 0 l.length = true
def wEn (es : List En) (e : Nat) (n : En) : Prop := (∀ o, eOw n = some o → o < e ∧ eOw (gE es o) = none) ∧ (∀ p, ePa n = some p → p < e ∧ eOw (gE es p) = none) ∧ (eOw n ≠ none → ePa n = none) ∧ wN (eNm n) ∧ (eOw n = none → isBg (tx (eNm n) 0) = true) ∧ (eOw n ≠ none → isSm (tx (eNm n) 0) = true) ∧ (ePs n).length ≤ 4 ∧ (∀ l ∈ ePs n, wN l) ∧ ∀ c, eCm n = some c → wC c
def wE (es : List En) : Prop := es.length ≤ 40 ∧ ∀ e, e < es.length → wEn es e (gE es e)
theorem oI_s {k : Nat} : oI (some k) = nI k := rfl
theorem oI_n : oI none = -1 := rfl
theorem oI_m1 {o : Option Nat} (h : ∀ k, o = some k → k < 2 ^ 31) : (oI o = -1) = (o = none) := by
  cases o with
  | none => simp [oI]
  | some k => simp only [oI, nI_m1 (h k rfl)]; simp
theorem oI_eq {o : Option Nat} {t : Nat} (h : ∀ k, o = some k → k < 2 ^ 31) (ht : t < 2 ^ 31) : (oI o = nI t) = (o = some t) := by
  cases o with
  | none =>
    simp only [oI, m1_nI ht]
    simp
  | some k =>
    simp only [oI]
    rw [propext (nI_eq (h k rfl) ht)]
    simp
theorem tx_ext {l m : List Nat} : l = m ↔ l.length = m.length ∧ ∀ k, k < m.length → tx l k = tx m k := by
  refine ⟨fun h => by subst h; exact ⟨rfl, fun _ _ => rfl⟩, fun ⟨a, b⟩ => ?_⟩
  refine List.ext_getElem a fun i h1 h2 => ?_
  have := b i h2
  simpa [tx, List.getD_eq_getElem?_getD, h1, h2] using this
/-- the first of a row -/
theorem fE_sc (es : List En) (o : Option Nat) (nm : List Nat) : fE es o nm = if sc (fun j => decide (eOw (gE es j) = o) && decide (eNm (gE es j) = nm)) 0 es.length < es.length then some (sc (fun j => decide (eOw (gE es j) = o) && decide (eNm (gE es j) = nm)) 0 es.length) else none := by
  have g : ∀ k i, i + k = es.length → (es.drop i).findIdx? (fun e => decide (eOw e = o) && decide (eNm e = nm)) = if sc (fun j => decide (eOw (gE es j) = o) && decide (eNm (gE es j) = nm)) i k < es.length then some (sc (fun j => decide (eOw (gE es j) = o) && decide (eNm (gE es j) = nm)) i k - i) else none := by
    intro k
    induction k with
    | zero =>
      intro i hi
      rw [List.drop_eq_nil_of_le (by omega)]
      simp [sc]
      omega
    | succ k ih =>
      intro i hi
      have hlt : i < es.length := by omega
      rw [List.drop_eq_getElem_cons hlt, List.findIdx?_cons]
      have e1 : gE es i = es[i] := by simp [gE, List.getD_eq_getElem?_getD, hlt]
      unfold sc
      rw [e1]
      by_cases hp : (decide (eOw es[i] = o) && decide (eNm es[i] = nm)) = true
      · rw [if_pos hp, if_pos hp, if_pos hlt]
        simp
      · rw [if_neg hp, if_neg hp, ih (i + 1) (by omega)]
        have := sc_ge (fun j => decide (eOw (gE es j) = o) && decide (eNm (gE es j) = nm)) k (i + 1)
        split
        · simp
          omega
        · rfl
  have := g es.length 0 (by omega)
  rw [List.drop_zero] at this
  exact this
theorem fE_lt {es : List En} {o : Option Nat} {nm : List Nat} {e : Nat} (h : fE es o nm = some e) : e < es.length ∧ eOw (gE es e) = o ∧ eNm (gE es e) = nm := by
  rw [fE_sc] at h
  split at h
  · rename_i hlt
    have e1 := Option.some.inj h
    have := sc_at (fun j => decide (eOw (gE es j) = o) && decide (eNm (gE es j) = nm)) es.length 0 (by omega)
    rw [e1] at this hlt
    simp only [Bool.and_eq_true, decide_eq_true_eq] at this
    exact ⟨hlt, this⟩
  · cases h
variable {S : mS} {es : List En} {q off : Nat} {l : List Nat}
theorem mEn.oLt (w : wE es) {e : Nat} (he : e < es.length) : (∀ k, eOw (gE es e) = some k → k < 2 ^ 31) ∧ (∀ k, ePa (gE es e) = some k → k < 2 ^ 31) := by
  have := w.1
  have w2 := w.2 e he
  exact ⟨fun k h => by have := (w2.1 k h).1; omega, fun k h => by have := (w2.2.1 k h).1; omega⟩
theorem g158_0 (n : Nat) (x1 x3 x4 x6 : Int32) : gl158_21 (n + 1) x1 q x3 x4 0 x6 S = some (0, S) := by
  simp only [gl158_21, gj158_67]
  by_cases h : x4 ≤ x6
  · rw [if_pos h]; rfl
  · rw [if_neg h]; rfl
theorem g158_s (H : mEs S es) (w : wE es) (A : aF S q off (tx l) l.length) {e : Nat} (he : e < es.length) : g158 (nI e) q (nI off) (nI l.length) S = some (bZ (decide (eNm (gE es e) = l)), S) := by
  have w1 := w.1
  have a1 := A.1
  have a2 := A.2.1
  obtain ⟨_, ⟨b1, b2⟩, _⟩ := H.2 e he
  have c1 := b2.1
  have c2 : mSz.getD 7 0 = 400 := rfl
  rw [c2] at c1
  unfold g158
  rw [ld_8 (by omega), b1]
  simp (disch := omega) only [Option.bind_some, nI_eq]
  by_cases hl : (eNm (gE es e)).length = l.length
  · rw [if_pos hl]
    unfold gj158_16
    have key := l_al (fun n b k => gl158_21 n (nI e) q (nI off) (nI l.length) (bZ b) (nI k) S) (fun k => tx (eNm (gE es e)) k == tx l k) (fun b => some (bZ b, S)) l.length (fun n b => ?_) (fun n k hk => g158_0 n _ _ _ _) (fun n k hk => ?_) l.length xFuel 0 true (by omega) (pFuel _ (by omega))
    · refine Eq.trans key ?_
      congr 3
      rw [Bool.true_and, Bool.eq_iff_iff, al_iff, decide_eq_true_eq, tx_ext]
      simp only [beq_iff_eq]
      exact ⟨fun h => ⟨hl, fun k hk => h k (Nat.zero_le _) (by omega)⟩, fun h k _ hk => h.2 k (by omega)⟩
    · simp only [gl158_21, gj158_67]
      rw [if_pos (nI_le (Nat.le_refl _) (by omega)), if_pos bZ_p]
    · simp (disch := omega) only [gl158_21, lt_2, lt_3, lt_4, lt_5, lt_6, lt_7, lt_8, lt_9, lt_10, lt_12, lt_13, lt_14, lt_15, lt_16, lt_20, lt_24, lt_25, lt_32, lt_39, lt_40, lt_41, lt_45, lt_46, lt_48, lt_57, lt_60, lt_63, lt_64, lt_65, lt_90, lt_91, lt_93, lt_97, lt_120, lt_121, lt_122, lt_123, lt_125, lt_126, lt_130, lt_600, lt_960, lt_999, lt_1000, lt_1091, lt_1200, lt_3000, lt_4000, lt_4001, lt_4002, lt_4800, lt_24000, nI_add, pk_mul, nI_leI, nI_ltI, nI_eq, nI_1]
      rw [if_neg (by omega), if_neg (by decide)]
      have d1 := b2.ld (i := k) (by omega)
      have d2 := A.ld (i := k) hk
      rw [d1, d2]
      have d3 := (b2.2.2 k (by omega)).1
      have d4 := (A.2.2 k hk).1
      simp (disch := omega) only [Option.bind_some, nI_eq]
      by_cases h9 : tx (eNm (gE es e)) k = tx l k
      · rw [if_pos h9, h9, beq_self_eq_true, gj158_59, nI_1]
        rfl
      · rw [if_neg h9, beq_false_of_ne h9, gj158_59, nI_1]
        rfl
  · rw [if_neg hl]
    unfold gj158_16
    rw [decide_eq_false fun h9 => hl (by rw [h9])]
    exact g158_0 999999 _ _ _ _
/-- how far up -/
theorem mF_up (w : wE es) (nm : List Nat) : ∀ n m (o : Option Nat), (∀ t, o = some t → t < n ∧ t < m ∧ t < es.length) → mF es n o nm = mF es m o nm := by
  intro n
  induction n with
  | zero =>
    intro m o h
    cases o with
    | none => cases m <;> rfl
    | some t => have := (h t rfl).1; omega
  | succ n ih =>
    intro m o h
    cases o with
    | none => cases m <;> rfl
    | some t =>
      obtain ⟨h1, h2, h3⟩ := h t rfl
      obtain ⟨m, rfl⟩ : ∃ k, m = k + 1 := ⟨m - 1, by omega⟩
      simp only [mF]
      cases fE es (some t) nm with
      | some e => rfl
      | none =>
        refine ih m _ fun p hp => ?_
        have := ((w.2 t h3).2.1 p hp).1
        omega
theorem mF_lt (w : wE es) (nm : List Nat) : ∀ n (o : Option Nat) e, mF es n o nm = some e → e < es.length ∧ eNm (gE es e) = nm ∧ ∃ t, eOw (gE es e) = some t ∧ ∃ s, o = some s ∧ (s < es.length → t ≤ s) := by
  intro n
  induction n with
  | zero => intro o e h; cases h
  | succ n ih =>
    intro o e h
    cases o with
    | none => cases h
    | some t =>
      simp only [mF] at h
      cases hf : fE es (some t) nm with
      | some e2 =>
        rw [hf] at h
        obtain ⟨a, b, c⟩ := fE_lt hf
        cases Option.some.inj h
        exact ⟨a, c, t, b, t, rfl, fun _ => Nat.le_refl _⟩
      | none =>
        rw [hf] at h
        obtain ⟨a, b, u, c, s, d, d2⟩ := ih _ _ h
        refine ⟨a, b, u, c, t, rfl, fun ht => ?_⟩
        have := ((w.2 t ht).2.1 s d).1
        have := d2 (by omega)
        omega
theorem g157_s (H : mEs S es) (w : wE es) (A : aF S q off (tx l) l.length) (x1 : Int32) : ∀ n (o : Option Nat), (∀ t, o = some t → t < n ∧ t < es.length) → gl157_3 (n + 1) x1 q (nI off) (nI l.length) (oI o) S = some (oI (mF es 40 o l), S) := by
  have w1 := w.1
  have h1 := H.1
  intro n
  induction n with
  | zero =>
    intro o h
    cases o with
    | none => rfl
    | some t => have := (h t rfl).1; omega
  | succ n ih =>
    intro o h
    cases o with
    | none => rfl
    | some t =>
      obtain ⟨ht, ht2⟩ := h t rfl
      have key := l_sc (fun n2 j => gl157_12 (gl157_3 (n + 1)) n2 x1 q (nI off) (nI l.length) (nI t) (nI j) S) (fun j => decide (eOw (gE es j) = some t) && decide (eNm (gE es j) = l)) (fun j => if j < es.length then some (nI j, S) else gl157_3 (n + 1) x1 q (nI off) (nI l.length) (oI (ePa (gE es t))) S) es.length (fun n2 => ?_) (fun n2 j hj hp => ?_) (fun n2 j hj hp => ?_) es.length xFuel 0 (by omega) (pFuel _ (by omega))
      · rw [gl157_3]
        simp (disch := omega) only [oI_s, nI_m1, if_false]
        refine Eq.trans key ?_
        rw [ih (ePa (gE es t)) fun p hp => by have := ((w.2 t ht2).2.1 p hp).1; omega]
        rw [mF_up w l 40 39 (ePa (gE es t)) fun p hp => by have := ((w.2 t ht2).2.1 p hp).1; omega]
        simp only [mF]
        have e1 := fE_sc es (some t) l
        split
        · rename_i hlt
          rw [if_pos hlt] at e1
          rw [e1]
          rfl
        · rename_i hlt
          rw [if_neg hlt] at e1
          rw [e1]
      · simp (disch := omega) only [gl157_12, h1, nI_leI]
        rw [if_pos (Nat.le_refl _), if_neg (by omega), ld_5 (by omega), (H.2 t ht2).1.2.2.1]
        rfl
      · simp only [Bool.and_eq_true, decide_eq_true_eq] at hp
        obtain ⟨m1, _⟩ := H.2 j hj
        simp (disch := omega) only [gl157_12, h1, nI_leI, ld_3, ld_4, Option.bind_some, g158_s H w A hj]
        rw [if_neg (by omega), m1.1, hp.1, m1.2.1, hp.1, hp.2, if_pos (by rfl), if_pos (show oI (some t) = nI t from rfl), if_neg (by simp [bZ]), if_pos hj]
      · obtain ⟨m1, _⟩ := H.2 j hj
        simp (disch := omega) only [gl157_12, h1, nI_leI, ld_3, ld_4, Option.bind_some, g158_s H w A hj, gj157_59, nI_1]
        rw [if_neg (by omega), m1.1, m1.2.1]
        have o1 := oI_eq (t := t) (mEn.oLt w hj).1 (by omega)
        by_cases c1 : eOw (gE es j) = some t
        · rw [c1, if_pos (by rfl), if_pos (show oI (some t) = nI t from rfl)]
          have c2 : ¬ eNm (gE es j) = l := fun h9 => by simp [c1, h9] at hp
          rw [decide_eq_false c2, if_pos (by rfl)]
        · simp only [o1, c1, if_false]
          split <;> rfl
theorem g157_o (H : mEs S es) (w : wE es) (A : aF S q off (tx l) l.length) {o : Option Nat} (ho : ∀ t, o = some t → t < es.length) : g157 (oI o) q (nI off) (nI l.length) S = some (oI (mF es 40 o l), S) := g157_s H w A (oI o) 999999 o fun t h => ⟨by have := ho t h; have := w.1; omega, ho t h⟩
theorem g159_s (H : mEs S es) (w : wE es) (A : aF S q off (tx l) l.length) : g159 q (nI off) (nI l.length) S = some (oI (fE es none l), S) := by
  have w1 := w.1
  have h1 := H.1
  have key := l_sc (fun n j => gl159_3 n q (nI off) (nI l.length) (nI j) S) (fun j => decide (eOw (gE es j) = none) && decide (eNm (gE es j) = l)) (fun j => if j < es.length then some (nI j, S) else some (-1, S)) es.length (fun n => ?_) (fun n j hj hp => ?_) (fun n j hj hp => ?_) es.length xFuel 0 (by omega) (pFuel _ (by omega))
  · refine Eq.trans key ?_
    have e1 := fE_sc es none l
    split
    · rename_i hlt
      rw [if_pos hlt] at e1
      rw [e1]
      rfl
    · rename_i hlt
      rw [if_neg hlt] at e1
      rw [e1]
      rfl
  · simp (disch := omega) only [gl159_3, h1, nI_leI]
    rw [if_pos (Nat.le_refl _), if_neg (by omega)]
  · simp only [Bool.and_eq_true, decide_eq_true_eq] at hp
    obtain ⟨m1, _⟩ := H.2 j hj
    simp (disch := omega) only [gl159_3, h1, nI_leI, ld_3, Option.bind_some, g158_s H w A hj]
    rw [if_neg (by omega), m1.1, hp.1, hp.2, if_neg (by simp [bZ]), if_neg (by simp [bZ]), if_pos hj]
  · obtain ⟨m1, _⟩ := H.2 j hj
    simp (disch := omega) only [gl159_3, h1, nI_leI, ld_3, Option.bind_some, g158_s H w A hj, gj159_37, nI_1]
    rw [if_neg (by omega), m1.1]
    cases c1 : eOw (gE es j) with
    | some o => rw [if_pos (by rfl)]
    | none =>
      have c2 : ¬ eNm (gE es j) = l := fun h9 => by simp [c1, h9] at hp
      rw [if_neg (by simp [bZ]), decide_eq_false c2, if_pos (by rfl)]
theorem abv_lt (w : wE es) {e a : Nat} (he : e < es.length) (h : abv es e = some a) : a < es.length ∧ ∃ o t, eOw (gE es e) = some o ∧ eOw (gE es a) = some t ∧ t < o := by
  unfold abv at h
  split at h
  · cases h
  · rename_i o ho
    obtain ⟨h1, h2, t, h3, s, h4, h5⟩ := mF_lt w _ _ _ _ h
    have a1 := ((w.2 e he).1 o ho).1
    have a2 := ((w.2 o (by omega)).2.1 s h4).1
    have := h5 (by omega)
    exact ⟨h1, o, t, ho, h3, by omega⟩
theorem g156_s (H : mEs S es) (w : wE es) {e : Nat} (he : e < es.length) : g156 (nI e) S = some (oI (abv es e), S) := by
  have w1 := w.1
  obtain ⟨m1, m2, _⟩ := H.2 e he
  unfold g156 abv
  rw [ld_3 (by omega), m1.1]
  simp only [Option.bind_some]
  cases ho : eOw (gE es e) with
  | none => rfl
  | some o =>
    have a1 := ((w.2 e he).1 o ho).1
    obtain ⟨n1, _⟩ := H.2 o (by omega)
    rw [if_pos (by rfl), ld_4 (by omega), m1.2.1, ho]
    simp (disch := omega) only [Option.bind_some, oI_s, ld_5, ld_8, n1.2.2.1, m2.1, lt_2, lt_3, lt_4, lt_5, lt_6, lt_7, lt_8, lt_9, lt_10, lt_12, lt_13, lt_14, lt_15, lt_16, lt_20, lt_24, lt_25, lt_32, lt_39, lt_40, lt_41, lt_45, lt_46, lt_48, lt_57, lt_60, lt_63, lt_64, lt_65, lt_90, lt_91, lt_93, lt_97, lt_120, lt_121, lt_122, lt_123, lt_125, lt_126, lt_130, lt_600, lt_960, lt_999, lt_1000, lt_1091, lt_1200, lt_3000, lt_4000, lt_4001, lt_4002, lt_4800, lt_24000, nI_add, pk_mul, nI_leI, nI_ltI, nI_eq, nI_1]
    rw [g157_o H w m2.2 fun p hp => by have := ((w.2 o (by omega)).2.1 p hp).1; omega]
    rfl
/-- so many steps up are left -/
def rk (es : List En) (o : Option Nat) : Nat := match o with
  | none => 0
  | some e => match eOw (gE es e) with
    | none => 1
    | some t => t + 2
theorem rk_abv (w : wE es) {e : Nat} (he : e < es.length) : rk es (abv es e) < rk es (some e) := by
  cases ha : abv es e with
  | none =>
    simp only [rk]
    split <;> omega
  | some a =>
    obtain ⟨_, o, t, h2, h3, h4⟩ := abv_lt w he ha
    simp only [rk, h2, h3]
    omega
theorem cnt_up (w : wE es) : ∀ n m (o : Option Nat), rk es o ≤ n → rk es o ≤ m → (∀ e, o = some e → e < es.length) → cnt es n o = cnt es m o := by
  intro n
  induction n with
  | zero =>
    intro m o h1 h2 h3
    cases o with
    | none => cases m <;> rfl
    | some e => simp only [rk] at h1; split at h1 <;> omega
  | succ n ih =>
    intro m o h1 h2 h3
    cases o with
    | none => cases m <;> rfl
    | some e =>
      have he := h3 e rfl
      have hr := rk_abv w he
      obtain ⟨m, rfl⟩ : ∃ k, m = k + 1 := ⟨m - 1, by omega⟩
      simp only [cnt]
      rw [ih m (abv es e) (by omega) (by omega) fun a ha => (abv_lt w he ha).1]
theorem rk_le (w : wE es) {o : Option Nat} (h : ∀ e, o = some e → e < es.length) : rk es o ≤ 40 := by
  have w1 := w.1
  cases o with
  | none => exact Nat.zero_le _
  | some e =>
    simp only [rk]
    split
    · omega
    · rename_i t ht
      have := ((w.2 e (h e rfl)).1 t ht).1
      have := h e rfl
      omega
theorem cnt_lt (w : wE es) : ∀ n (o : Option Nat) e, (∀ e, o = some e → e < es.length) → cnt es n o = some e → e < es.length ∧ (eCm (gE es e)).isSome = true := by
  intro n
  induction n with
  | zero => intro o e _ h; cases h
  | succ n ih =>
    intro o e h1 h
    cases o with
    | none => cases h
    | some x =>
      simp only [cnt] at h
      split at h
      · rename_i hs
        obtain rfl := Option.some.inj h
        exact ⟨h1 _ rfl, hs⟩
      · exact ih _ _ (fun a ha => (abv_lt w (h1 _ rfl) ha).1) h
theorem g160_s (H : mEs S es) (w : wE es) (x1 : Int32) : ∀ n (o : Option Nat), rk es o ≤ n → (∀ e, o = some e → e < es.length) → gl160_2 (n + 1) x1 (oI o) S = some (oI (cnt es 40 o), S) := by
  have w1 := w.1
  intro n
  induction n with
  | zero =>
    intro o h h2
    cases o with
    | none => rfl
    | some e => simp only [rk] at h; split at h <;> omega
  | succ n ih =>
    intro o h h2
    cases o with
    | none => rfl
    | some e =>
      have he := h2 e rfl
      obtain ⟨m1, m2, m3, m4⟩ := H.2 e he
      have hr := rk_abv w he
      have hx := rk_le w h2
      rw [gl160_2]
      simp (disch := omega) only [oI_s, nI_m1, if_false, ld_13, Option.bind_some, g156_s H w he]
      have hi := ih (abv es e) (by omega) fun a ha => (abv_lt w he ha).1
      rw [cnt_up w 40 39 (abv es e) (by omega) (by omega) fun a ha => (abv_lt w he ha).1] at hi
      simp only [cnt]
      cases hc : eCm (gE es e) with
      | none =>
        rw [hc] at m4
        rw [m4.1, if_pos rfl, hi]
        simp
      | some c =>
        rw [hc] at m4
        have := ((w.2 e he).2.2.2.2.2.2.2.2 c hc).1.1
        rw [m4.1, if_neg (nI_nm (by omega))]
        simp [gj160_26, oI_s]
theorem g160_o (H : mEs S es) (w : wE es) {o : Option Nat} (ho : ∀ e, o = some e → e < es.length) : g160 (oI o) S = some (oI (cnt es 40 o), S) := g160_s H w (oI o) 999999 o (by have := rk_le w ho; omega) ho
/-- a part of a text -/
theorem cut_len {bs : List Nat} {i e : Nat} (he : e ≤ bs.length) : (cut bs i e).length = e - i := by
  simp [cut]
  omega
theorem cut_tx {bs : List Nat} {i e k : Nat} (hk : k < e - i) : tx (cut bs i e) k = tx bs (i + k) := by
  simp [tx, cut, List.getD_eq_getElem?_getD, List.getElem?_take, hk]
theorem cut_all {bs : List Nat} : cut bs 0 bs.length = bs := by simp [cut]
theorem cut_cut {bs : List Nat} {i e a z : Nat} (hz : z ≤ e - i) : cut (cut bs i e) a z = cut bs (i + a) (i + z) := by
  unfold cut
  rw [List.drop_take, List.drop_drop, List.take_take]
  congr 1
  omega
theorem aF.cut {f : Nat → Nat} {N : Nat} {bs : List Nat} (A : aF S q off (tx bs) N) {i e : Nat} (hi : i ≤ e) (he : e ≤ N) (hb : e ≤ bs.length) : aF S q (off + i) (tx (cut bs i e)) (cut bs i e).length := by
  rw [cut_len hb]
  refine ⟨by have := A.1; omega, A.2.1, fun k hk => ?_⟩
  rw [cut_tx hk, Nat.add_assoc]
  exact A.2.2 (i + k) (by omega)
/-- a reference's bytes -/
theorem rf_dot {f : Nat → Nat} {k : Nat} (h : rfOK f 0 k = true) : 0 < k ∧ nmOK f 0 (sc (fun j => f j == 46) 0 k) = true ∧ (sc (fun j => f j == 46) 0 k < k → nmOK f (sc (fun j => f j == 46) 0 k + 1) (k - (sc (fun j => f j == 46) 0 k + 1)) = true) := by
  have a := sc_ge (fun j => f j == 46) k 0
  simp only [rfOK, Bool.and_eq_true, Bool.or_eq_true, decide_eq_true_eq, Nat.zero_add, Nat.sub_zero] at h
  have := nmOK_NB h.1
  exact ⟨by omega, h.1, fun h2 => h.2.resolve_left (by omega)⟩
theorem nm_cut {l : List Nat} {i k : Nat} (hk : i + k ≤ l.length) (h : nmOK (tx l) i k = true) : wN (cut l i (i + k)) := by
  have h1 := nmOK_NB h
  unfold wN
  have e1 : (cut l i (i + k)).length = k := by rw [cut_len hk]; omega
  have e2 : ∀ j, j < k → tx (cut l i (i + k)) j = tx l (i + j) := fun j hj => cut_tx (by omega)
  simp only [nmOK, Bool.and_eq_true, decide_eq_true_eq, e1]
  refine ⟨⟨⟨h1.1, h1.2.1⟩, ?_⟩, ?_⟩
  · rw [e2 0 (by omega)]
    exact h1.2.2.1
  · refine sc_un _ (Nat.zero_le _) (Nat.le_refl _) (fun j _ hj => ?_) (fun h9 => by omega)
    rw [e2 j (by omega), h1.2.2.2 (i + j) (by omega) (by omega)]
    rfl
theorem cut_0 {l : List Nat} {d : Nat} : cut l 0 d = l.take d := by simp [cut]
theorem cut_d {l : List Nat} {d : Nat} : cut l d l.length = l.drop d := by
  unfold cut
  exact List.take_of_length_le (by simp)
/-- a type's name begins big, a member's small -/
theorem fE_big (w : wE es) {nm : List Nat} (h : isBg (tx nm 0) = false) : fE es none nm = none := by
  cases hf : fE es none nm with
  | none => rfl
  | some e =>
    obtain ⟨a, b, c⟩ := fE_lt hf
    have := (w.2 e a).2.2.2.2.1 b
    rw [c, h] at this
    cases this
theorem mF_small (w : wE es) {nm : List Nat} (h : isSm (tx nm 0) = false) (n : Nat) (o : Option Nat) : mF es n o nm = none := by
  cases hf : mF es n o nm with
  | none => rfl
  | some e =>
    obtain ⟨a, b, t, c, _⟩ := mF_lt w nm n o e hf
    have := (w.2 e a).2.2.2.2.2.1 (by rw [c]; simp)
    rw [b, h] at this
    cases this
theorem g164_s (H : mEs S es) (w : wE es) (A : aF S q off (tx l) l.length) (hr : rfOK (tx l) 0 l.length = true) {e : Nat} (he : e < es.length) : g164 (nI e) q (nI off) (nI l.length) S = some (oI (lead es e l), S) := by
  have w1 := w.1
  have a1 := A.1
  have a2 := A.2.1
  obtain ⟨r0, r1, r2⟩ := rf_dot hr
  obtain ⟨m1, _⟩ := H.2 e he
  have d0 := sc_ge (fun j => tx l j == 46) l.length 0
  have d1 := sc_at (fun j => tx l j == 46) l.length 0
  unfold lead
  dsimp only
  generalize sc (fun j => tx l j == 46) 0 l.length = d at d0 d1 r1 r2
  have n1 := nmOK_NB r1
  have nA : nmAt (tx l) 0 l.length = d := by
    refine nmAt_nm _ (by omega) r1 ?_
    by_cases hd : d = l.length
    · exact Or.inl (by omega)
    · have := d1 (by omega)
      rw [beq_iff_eq] at this
      rw [Nat.zero_add, this]
      exact Or.inr isNB_46
  have g1 : g162 q (nI off) (nI off + nI l.length) S = some (nI d, S) := by
    have := g162_s A (i := 0) (e := l.length) (by omega) (by omega)
    rw [nA] at this
    rw [nI_add]
    exact this
  have c0 := A.ld (i := 0) (by omega)
  rw [Nat.add_zero] at c0
  have c1 := (A.2.2 0 (by omega)).1
  unfold g164
  rw [g1]
  simp (disch := omega) only [Option.bind_some, ld_3, ld_4, m1.1, m1.2.1]
  have ty : (if bZ (eOw (gE es e)).isNone = 0 then gj164_30 (nI e) q (nI off) (nI l.length) (nI d) (oI (eOw (gE es e))) S else gj164_30 (nI e) q (nI off) (nI l.length) (nI d) (nI e) S) = gj164_30 (nI e) q (nI off) (nI l.length) (nI d) (oI (some (nty es e))) S := by
    unfold nty
    cases ho : eOw (gE es e) with
    | none => rfl
    | some o => rfl
  rw [ty]
  have tl : nty es e < es.length := by
    unfold nty
    cases ho : eOw (gE es e) with
    | none => exact he
    | some o => have := ((w.2 e he).1 o ho).1; dsimp only; omega
  unfold gj164_30
  rw [c0]
  simp (disch := omega) only [Option.bind_some, g145_s, nI_eq, bZ_0]
  by_cases hd : d = l.length
  · rw [if_pos hd, if_neg (show ¬ d < l.length by omega)]
    cases hb : isBg (tx l 0) with
    | true =>
      simp only [g159_s H w A, Option.bind_some, gj164_69]
      rfl
    | false =>
      rw [if_pos rfl, g157_o H w A (o := some (nty es e)) fun t ht => by cases ht; exact tl]
      rfl
  · rw [if_neg hd, if_pos (show d < l.length by omega)]
    have A1 : aF S q off (tx (l.take d)) (l.take d).length := by
      have := A.cut (f := tx l) (i := 0) (e := d) (by omega) (by omega) (by omega)
      rw [cut_0] at this
      exact this
    have A2 : aF S q (off + (d + 1)) (tx (l.drop (d + 1))) (l.drop (d + 1)).length := by
      have := A.cut (f := tx l) (i := d + 1) (e := l.length) (by omega) (by omega) (by omega)
      rw [cut_d] at this
      exact this
    have L1 : (l.take d).length = d := by simp; omega
    have L2 : (l.drop (d + 1)).length = l.length - (d + 1) := by simp
    have T0 : tx (l.take d) 0 = tx l 0 := by
      rw [← cut_0]
      have := cut_tx (bs := l) (i := 0) (e := d) (k := 0) (by omega)
      simpa using this
    have T1 : tx (l.drop (d + 1)) 0 = tx l (d + 1) := by simp [tx, List.getD_eq_getElem?_getD]
    have n2 := nmOK_NB (r2 (by omega))
    have g2 := g159_s H w A1
    rw [L1] at g2
    have fl : ∀ t, fE es none (l.take d) = some t → t < es.length := fun t ht => (fE_lt ht).1
    have g3 := g157_o H w A2 fl
    rw [L2] at g3
    have key : ∀ o : Option Nat, o = fE es none (l.take d) → gj164_91 (nI e) q (nI off) (nI l.length) (nI d) (oI (some (nty es e))) (oI o) S = some (oI (mF es 40 (fE es none (l.take d)) (l.drop (d + 1))), S) := by
      rintro o rfl
      unfold gj164_91
      have c4 := A.ld (i := d + 1) (by omega)
      have c5 := (A.2.2 (d + 1) (by omega)).1
      rw [show nI off + nI d + 1 = nI (off + (d + 1)) by rw [nI_add, nI_1]; congr 1, c4, show nI l.length - nI d - 1 = nI (l.length - (d + 1)) by rw [pk_sub (by omega), show (1 : Int32) = nI 1 from rfl, pk_sub (by omega)]; congr 1]
      simp (disch := omega) only [Option.bind_some, g146_s, bZ_0]
      rw [g3]
      cases hf : fE es none (l.take d) with
      | none => rfl
      | some t =>
        have := fl t hf
        rw [if_neg (by rw [oI_s]; exact nI_nm (by omega))]
        cases hs : isSm (tx l (d + 1)) with
        | true => rfl
        | false =>
          rw [mF_small w (by rw [T1]; exact hs)]
          rfl
    cases hb : isBg (tx l 0) with
    | true =>
      rw [if_neg (show ¬ true = false by simp), g2]
      exact key _ rfl
    | false =>
      rw [if_pos rfl]
      exact key none (fE_big w (by rw [T0]; exact hb)).symm
end PMENT
