section PMQ
theorem in_no {y : Int32} {n : Nat} (hn : n < 2 ^ 31) (h : ∀ k, k ≤ n → ¬ y = nI k) : ¬ (0 ≤ y ∧ y ≤ nI n) := by
  rintro ⟨a, b⟩
  obtain ⟨k, hk, rfl⟩ := nI_of (Int32.not_lt.mpr a)
  exact h k ((nI_leI hk hn).mp b) rfl
theorem nm_sh {f g : Nat → Nat} {i a k : Nat} (h : ∀ j, j < a + k → f (i + j) = g j) : nmOK f (i + a) k = nmOK g a k := by
  unfold nmOK
  have e1 : sc (fun j => !isNB (f j)) (i + a) k = i + sc (fun j => !isNB (g j)) a k := by
    rw [sc_sh (fun j => !isNB (f j)) i k a]
    congr 1
    exact sc_cg k a fun j _ hj => by rw [h j hj]
  rw [e1]
  have e2 : decide (i + sc (fun j => !isNB (g j)) a k = i + a + k) = decide (sc (fun j => !isNB (g j)) a k = a + k) := decide_eq_decide.mpr (by omega)
  rw [e2]
  by_cases hk : 1 ≤ k
  · rw [h a (by omega)]
  · rw [decide_eq_false hk]
    rfl
theorem rf_sh {f g : Nat → Nat} {i k : Nat} (h : ∀ j, j < k → f (i + j) = g j) : rfOK f i k = rfOK g 0 k := by
  unfold rfOK
  have e1 : sc (fun j => f j == 46) i k = i + sc (fun j => g j == 46) 0 k := by
    have := sc_sh (fun j => f j == 46) i k 0
    rw [Nat.add_zero] at this
    rw [this]
    congr 1
    exact sc_cg k 0 fun j _ hj => by rw [h j (by omega)]
  have a := sc_ge (fun j => g j == 46) k 0
  rw [e1]
  dsimp only
  generalize sc (fun j => g j == 46) 0 k = d at a
  rw [Nat.zero_add, Nat.sub_zero, show i + d - i = d by omega, show i + k - (i + d + 1) = k - (d + 1) by omega]
  have n1 := nm_sh (f := f) (g := g) (i := i) (a := 0) (k := d) fun j hj => h j (by omega)
  rw [Nat.add_zero] at n1
  rw [n1, show decide (i + d = i + k) = decide (d = k) from decide_eq_decide.mpr (by omega)]
  by_cases hd : d = k
  · rw [decide_eq_true hd]
    rfl
  · rw [show i + d + 1 = i + (d + 1) by omega, nm_sh (f := f) (g := g) (i := i) (a := d + 1) (k := k - (d + 1)) fun j hj => h j (by omega)]
theorem rf_cut {bs : List Nat} {i z : Nat} (hz : z ≤ bs.length) : rfOK (tx (cut bs i z)) 0 (cut bs i z).length = rfOK (tx bs) i (z - i) := by
  rw [cut_len hz]
  exact (rf_sh fun j hj => (cut_tx hj).symm).symm
theorem inP {x : Int32} {n : Nat} (h : n < 2 ^ 31) : (0 ≤ x ∧ x ≤ nI n - 1) ↔ ∃ j, j < n ∧ x = nI j := by
  constructor
  · rintro ⟨h1, h2⟩
    obtain ⟨j, hj, rfl⟩ := nI_of (Int32.not_lt.mpr h1)
    cases n with
    | zero =>
      have e1 : nI 0 - 1 = -1 := by decide
      rw [e1] at h2
      have := Int32.le_iff_toInt_le.mp h2
      rw [nI_toInt hj] at this
      have h7 : (-1 : Int32).toInt = -1 := by decide
      omega
    | succ m =>
      rw [nI_pred] at h2
      have := (nI_leI hj (by omega)).mp h2
      exact ⟨j, by omega, rfl⟩
  · rintro ⟨j, hj, rfl⟩
    obtain ⟨m, rfl⟩ : ∃ m, n = m + 1 := ⟨n - 1, by omega⟩
    rw [nI_pred]
    exact ⟨nI_pos' (by omega), nI_le (by omega) (by omega)⟩
theorem eIx_iff {es : List En} {x : Int32} (h : es.length < 2 ^ 31) : (eIx es x).isSome = decide (0 ≤ x ∧ x ≤ nI es.length - 1) := by
  rw [Bool.eq_iff_iff, decide_eq_true_eq, inP h]
  unfold eIx
  constructor
  · intro h1
    split at h1
    · rename_i h2
      obtain ⟨j, hj, rfl⟩ := nI_of h2.1
      rw [nI_clamp hj] at h2
      exact ⟨j, h2.2, rfl⟩
    · cases h1
  · rintro ⟨j, hj, rfl⟩
    rw [nI_clamp (by omega), if_pos ⟨nI_pos (by omega), hj⟩]
    rfl
def mTp (S : mS) (bs : List Nat) : Prop := S.1 1 = nI bs.length ∧ aF S 0 0 (tx bs) bs.length
def mPg (S : mS) (p : Pg) : Prop := (S.1 53 = nI p.1.length ∧ ∀ i, i < p.1.length → S.2 52 i = nI (p.1.getD i 0)) ∧ (S.1 55 = nI p.2.1.length ∧ ∀ i, i < p.2.1.length → S.2 54 i = nI (p.2.1.getD i 0)) ∧ (S.1 59 = nI p.2.2.1.length ∧ ∀ i, i < p.2.2.1.length → S.2 58 i = nI (p.2.2.1.getD i 0)) ∧ S.1 56 = nI p.2.2.2.1 ∧ S.1 57 = nI p.2.2.2.2
def mNt (S : mS) (l : List (Nat × Nat)) : Prop := S.1 73 = nI l.length ∧ ∀ i, i < l.length → S.2 71 i = nI (l.getD i (0, 0)).1 ∧ S.2 72 i = nI (l.getD i (0, 0)).2
def MR (S : mS) (σ : St) : Prop := mTp S σ.1 ∧ mEs S σ.2.1 ∧ S.1 33 = nI σ.2.2.1 ∧ mPg S σ.2.2.2.1 ∧ mNt S σ.2.2.2.2
def wPg (p : Pg) : Prop := p.1.length ≤ 4000 ∧ (∀ c ∈ p.1, c < 256) ∧ p.2.1.length ≤ 4000 ∧ (∀ c ∈ p.2.1, c ≤ 4000) ∧ p.2.2.1.length ≤ 40 ∧ (∀ c ∈ p.2.2.1, c < 40) ∧ p.2.2.2.1 < 2 ^ 30 ∧ p.2.2.2.2 ≤ 4000
def wNt (l : List (Nat × Nat)) : Prop := l.length ≤ 200 ∧ ∀ q ∈ l, q.1 ≤ 7 ∧ q.2 ≤ 600
def wSt (σ : St) : Prop := wT σ.1 ∧ wE σ.2.1 ∧ σ.2.2.1 ≤ 5 ∧ (wPg σ.2.2.2.1 ∧ ∀ c ∈ σ.2.2.2.1.2.2.1, c < σ.2.1.length) ∧ wNt σ.2.2.2.2
variable {S : mS} {σ : St} {es : List En}
theorem g148_s (H : mEs S es) (w : wE es) (x : Int32) : g148 x S = some (bZ (eIx es x).isSome, S) := by
  have w1 := w.1
  unfold g148
  rw [H.1, g141_s, eIx_iff (by omega)]
  simp only [Option.bind_some]
  rw [if_pos bZ_p]
theorem g190_s (M : MR S σ) (a : Nat → Int32) : g190 S = some ((stp σ 6 a).1, S) := by
  unfold g190
  rw [M.2.2.1]
  rfl
theorem mEn_cm (H : mEs S es) (w : wE es) {e : Nat} (he : e < es.length) : S.2 14 e = nI (gC es e).2.1.length ∧ S.2 15 e = nI (gC es e).2.2.length ∧ (gC es e).2.1.length ≤ 24 ∧ (gC es e).2.2.length ≤ 120 ∧ (∀ k, k < (gC es e).2.1.length → mBk S (24 * e + k) ((gC es e).2.1.getD k bkD) ∧ wB (tx (gC es e).1) (gC es e).1.length (gC es e).2.2.length ((gC es e).2.1.getD k bkD)) ∧ (∀ k, k < (gC es e).2.2.length → mPc S (120 * e + k) ((gC es e).2.2.getD k pcD) ∧ wP (tx (gC es e).1) (gC es e).1.length ((gC es e).2.2.getD k pcD)) ∧ aF S 12 (600 * e) (tx (gC es e).1) (gC es e).1.length ∧ (gC es e).1.length ≤ 600 ∧ ∀ c ∈ (gC es e).1, c < 256 := by
  obtain ⟨_, _, _, m4⟩ := H.2 e he
  have w1 := w.1
  have w2 := (w.2 e he).2.2.2.2.2.2.2.2
  unfold gC
  cases hc : eCm (gE es e) with
  | none =>
    rw [hc] at m4
    refine ⟨m4.2.1, m4.2.2, Nat.zero_le _, Nat.zero_le _, fun k hk => absurd hk (Nat.not_lt_zero _), fun k hk => absurd hk (Nat.not_lt_zero _), ⟨show 600 * e + 0 ≤ 24600 by omega, show 24600 < 30000 by decide, fun i hi => absurd hi (Nat.not_lt_zero _)⟩, Nat.zero_le _, fun c hc => by cases hc⟩
  | some c =>
    rw [hc] at m4
    obtain ⟨v1, v2⟩ := w2 c hc
    refine ⟨m4.2.2.1.1, m4.2.2.2.1, v2.1, v2.2.1, fun k hk => ⟨m4.2.2.1.2 k hk, v2.2.2.1 _ ?_⟩, fun k hk => ⟨m4.2.2.2.2 k hk, v2.2.2.2.1 _ ?_⟩, m4.2.1, v1.1, v1.2⟩
    · have hk : k < c.2.1.length := hk
      simp [List.getD_eq_getElem?_getD, hk]
    · have hk : k < c.2.2.length := hk
      simp [List.getD_eq_getElem?_getD, hk]
theorem g192_s (M : MR S σ) (w : wSt σ) (x y : Int32) : g192 x y S = some (sTold σ x y, S) := by
  have H := M.2.1
  have wE1 := w.2.1
  have w1 := wE1.1
  unfold g192 sTold
  rw [g148_s H wE1]
  simp only [Option.bind_some, bZ_0]
  cases he : eIx σ.2.1 x with
  | none => rfl
  | some e =>
    obtain ⟨h1, rfl⟩ := eIx_lt he
    obtain ⟨m1, _, m3, _⟩ := H.2 e h1
    obtain ⟨c1, c2, _⟩ := mEn_cm H wE1 h1
    rw [if_neg (by simp)]
    have g5 := g160_o H wE1 (o := some e) fun k hk => by cases hk; exact h1
    rw [oI_s] at g5
    simp (disch := omega) only [ld_4, ld_5, ld_9, ld_6, ld_14, ld_15, Option.bind_some, m1.2.1, m1.2.2.1, m1.2.2.2, m3.1, c1, c2, g156_s H wE1 h1, g5, bZ_0, gj192_95]
    repeat' split
    all_goals first
      | rfl
      | simp_all
theorem g193_s (M : MR S σ) (w : wSt σ) (x i y : Int32) : g193 x i y S = some (sBlk σ x i y, S) := by
  have H := M.2.1
  have wE1 := w.2.1
  have w1 := wE1.1
  unfold g193 sBlk
  rw [g148_s H wE1]
  simp only [Option.bind_some, bZ_0]
  cases he : eIx σ.2.1 x with
  | none => rfl
  | some e =>
    obtain ⟨h1, rfl⟩ := eIx_lt he
    obtain ⟨c1, _, c3, _, c5, _⟩ := mEn_cm H wE1 h1
    rw [if_neg (by simp), ld_14 (by omega), c1]
    simp only [Option.bind_some, g141_s, bZ_0, decide_eq_false_iff_not, inP (show (gC σ.2.1 e).2.1.length < 2 ^ 31 by omega)]
    by_cases hi : i < 0
    · rw [if_pos hi, if_pos]
      · rfl
      · rintro ⟨j, hj, rfl⟩
        exact nI_pos (by omega) hi
    · obtain ⟨j, hj, rfl⟩ := nI_of hi
      rw [if_neg hi, nI_clamp hj]
      by_cases hj2 : j < (gC σ.2.1 e).2.1.length
      · obtain ⟨b1, _⟩ := c5 j hj2
        have e1 : (gC σ.2.1 e).2.1[j]? = some ((gC σ.2.1 e).2.1.getD j bkD) := by simp [List.getD_eq_getElem?_getD, hj2]
        rw [if_neg fun h9 => h9 ⟨j, hj2, rfl⟩, e1]
        simp (disch := omega) only [lt_24, pk_mul, nI_add, ld_16, ld_17, ld_19, ld_20, Option.bind_some, b1.1, b1.2.1, b1.2.2.2.1, b1.2.2.2.2.1, gj193_95]
        by_cases y0 : y = 0
        · subst y0; rfl
        · by_cases y1 : y = 1
          · subst y1; rfl
          · by_cases y2 : y = 2
            · subst y2; rfl
            · by_cases y3 : y = 3
              · subst y3; rfl
              · rw [if_pos (show ¬ ((0 : Int32) ≤ y ∧ y ≤ 3) from in_no (n := 3) (by decide) fun k hk => ?_)]
                · simp [y0, y1, y2, y3, gj193_33]
                · have : k = 0 ∨ k = 1 ∨ k = 2 ∨ k = 3 := by omega
                  rcases this with rfl | rfl | rfl | rfl
                  · exact y0
                  · exact y1
                  · exact y2
                  · exact y3
      · have e1 : (gC σ.2.1 e).2.1[j]? = none := List.getElem?_eq_none (by omega)
        rw [e1, if_pos]
        · rfl
        · rintro ⟨k, hk, e9⟩
          rw [nI_eq hj (by omega)] at e9
          omega
theorem g194_s (M : MR S σ) (w : wSt σ) (x i y : Int32) : g194 x i y S = some (sPce σ x i y, S) := by
  have H := M.2.1
  have wE1 := w.2.1
  have w1 := wE1.1
  unfold g194 sPce
  rw [g148_s H wE1]
  simp only [Option.bind_some, bZ_0]
  cases he : eIx σ.2.1 x with
  | none => rfl
  | some e =>
    obtain ⟨h1, rfl⟩ := eIx_lt he
    obtain ⟨_, c2, _, c4, _, c6, cA, cL, _⟩ := mEn_cm H wE1 h1
    rw [if_neg (by simp), ld_15 (by omega), c2]
    simp only [Option.bind_some, g141_s, bZ_0, decide_eq_false_iff_not, inP (show (gC σ.2.1 e).2.2.length < 2 ^ 31 by omega)]
    by_cases hi : i < 0
    · rw [if_pos hi, if_pos]
      · rfl
      · rintro ⟨j, hj, rfl⟩
        exact nI_pos (by omega) hi
    · obtain ⟨j, hj, rfl⟩ := nI_of hi
      rw [if_neg hi, nI_clamp hj]
      by_cases hj2 : j < (gC σ.2.1 e).2.2.length
      · obtain ⟨b1, b2⟩ := c6 j hj2
        have e1 : (gC σ.2.1 e).2.2[j]? = some ((gC σ.2.1 e).2.2.getD j pcD) := by simp [List.getD_eq_getElem?_getD, hj2]
        rw [if_neg fun h9 => h9 ⟨j, hj2, rfl⟩, e1]
        generalize (gC σ.2.1 e).2.2.getD j pcD = p at b1 b2
        obtain ⟨b1a, b1b, b1c, b1d, b1e, b1f, b1g⟩ := b1
        obtain ⟨b2a, b2b, b2c, b2d, b2e, b2f, b2g⟩ := b2
        simp (disch := omega) only [lt_120, pk_mul, nI_add, ld_24, ld_25, ld_27, ld_28, Option.bind_some, b1a, b1b, b1d, b1e, gj194_115, bZ_0]
        by_cases y0 : y = 0
        · subst y0; rfl
        · by_cases y1 : y = 1
          · subst y1; rfl
          · by_cases y2 : y = 2
            · subst y2; rfl
            · by_cases y3 : y = 3
              · subst y3
                cases hg : pGl p <;> simp [hg]
              · by_cases y4 : y = 4
                · subst y4
                  simp (disch := omega) only [lt_2, nI_eq, ld_29, ld_30, Option.bind_some, b1f, b1g, lt_600, pk_mul, nI_add]
                  by_cases h2 : pSo p = 2
                  · have A := cA.cut (f := tx (gC σ.2.1 e).1) b2e b2f b2f
                    have L := cut_len (bs := (gC σ.2.1 e).1) (i := pNf p) b2f
                    have hr := b2g h2
                    rw [← rf_cut b2f] at hr
                    have := g164_s H wE1 A hr h1
                    rw [L] at this
                    rw [this, if_neg (by decide), if_neg (by decide), if_neg (by decide), if_neg (by decide), if_neg (by decide), if_pos h2, if_neg (by decide), if_neg (by decide), if_neg (by decide), if_neg (by decide), if_pos trivial, if_pos h2]
                    rfl
                  · rw [if_neg (by decide), if_neg (by decide), if_neg (by decide), if_neg (by decide), if_neg (by decide), if_neg h2, if_neg (by decide), if_neg (by decide), if_neg (by decide), if_neg (by decide), if_pos trivial, if_neg h2]
                    rfl
                · rw [if_pos (show ¬ ((0 : Int32) ≤ y ∧ y ≤ 4) from in_no (n := 4) (by decide) fun k hk => ?_)]
                  · simp [y0, y1, y2, y3, y4, gj194_33]
                  · have : k = 0 ∨ k = 1 ∨ k = 2 ∨ k = 3 ∨ k = 4 := by omega
                    rcases this with rfl | rfl | rfl | rfl | rfl
                    · exact y0
                    · exact y1
                    · exact y2
                    · exact y3
                    · exact y4
      · have e1 : (gC σ.2.1 e).2.2[j]? = none := List.getElem?_eq_none (by omega)
        rw [e1, if_pos]
        · rfl
        · rintro ⟨k, hk, e9⟩
          rw [nI_eq hj (by omega)] at e9
          omega
theorem g215_s (M : MR S σ) (x : Int32) : g215 x S = some (sAb σ x, S) := by
  obtain ⟨_, _, _, ⟨⟨p1, _⟩, ⟨p2, _⟩, ⟨p3, _⟩, p4, p5⟩, _⟩ := M
  unfold g215 sAb
  simp only [p1, p2, p3, p4, p5]
  repeat' split
  all_goals rfl
theorem getD_in {α : Type} {l : List α} {j : Nat} {d : α} (h : j < l.length) : l[j]? = some (l.getD j d) := by simp [List.getD_eq_getElem?_getD, h]
theorem g216_s (M : MR S σ) (w : wSt σ) (x : Int32) : g216 x S = some (sAt σ x, S) := by
  obtain ⟨_, _, _, ⟨⟨p1, q1⟩, _⟩, _⟩ := M
  have w1 := w.2.2.2.1.1.1
  unfold g216 sAt
  rw [p1, g141_s]
  simp only [Option.bind_some, bZ_0, decide_eq_false_iff_not, inP (show σ.2.2.2.1.1.length < 2 ^ 31 by omega)]
  by_cases hi : x < 0
  · rw [if_pos hi, if_pos]
    · rfl
    · rintro ⟨j, hj, rfl⟩
      exact nI_pos (by omega) hi
  · obtain ⟨j, hj, rfl⟩ := nI_of hi
    rw [if_neg hi, nI_clamp hj]
    by_cases hj2 : j < σ.2.2.2.1.1.length
    · rw [if_neg fun h9 => h9 ⟨j, hj2, rfl⟩, ld_52 (by omega), q1 j hj2]
      rfl
    · rw [if_pos]
      · rw [List.getD_eq_getElem?_getD, List.getElem?_eq_none (by omega)]
        rfl
      · rintro ⟨k, hk, e9⟩
        rw [nI_eq hj (by omega)] at e9
        omega
theorem g217_s (M : MR S σ) (w : wSt σ) (x : Int32) : g217 x S = some (sLin σ x, S) := by
  obtain ⟨_, _, _, ⟨_, ⟨p1, q1⟩, _⟩, _⟩ := M
  have w1 := w.2.2.2.1.1.2.2.1
  unfold g217 sLin
  rw [p1, g141_s]
  simp only [Option.bind_some, bZ_0, decide_eq_false_iff_not, inP (show σ.2.2.2.1.2.1.length < 2 ^ 31 by omega)]
  by_cases hi : x < 0
  · rw [if_pos hi, if_pos]
    · rfl
    · rintro ⟨j, hj, rfl⟩
      exact nI_pos (by omega) hi
  · obtain ⟨j, hj, rfl⟩ := nI_of hi
    rw [if_neg hi, nI_clamp hj]
    by_cases hj2 : j < σ.2.2.2.1.2.1.length
    · rw [if_neg fun h9 => h9 ⟨j, hj2, rfl⟩, ld_54 (by omega), q1 j hj2, getD_in (d := 0) hj2]
      rfl
    · rw [if_pos]
      · rw [List.getElem?_eq_none (by omega)]
        rfl
      · rintro ⟨k, hk, e9⟩
        rw [nI_eq hj (by omega)] at e9
        omega
theorem g218_s (M : MR S σ) (w : wSt σ) (x : Int32) : g218 x S = some (sTgt σ x, S) := by
  obtain ⟨_, _, _, ⟨_, _, ⟨p1, q1⟩, _⟩, _⟩ := M
  have w1 := w.2.2.2.1.1.2.2.2.2.1
  unfold g218 sTgt
  rw [p1, g141_s]
  simp only [Option.bind_some, bZ_0, decide_eq_false_iff_not]
  by_cases hi : x < 1
  · rw [if_pos hi, if_pos fun h9 => absurd hi (Int32.not_lt.mpr h9.1)]
    rfl
  · have h0 : ¬ x < 0 := fun h9 => hi (Int32.lt_trans h9 (by decide))
    obtain ⟨j, hj, rfl⟩ := nI_of h0
    have j1 : ¬ j < 1 := fun h9 => hi ((nI_ltI (b := 1) hj (by decide)).mpr h9)
    rw [if_neg hi, nI_clamp hj]
    by_cases hj2 : j - 1 < σ.2.2.2.1.2.2.1.length
    · rw [if_neg fun h9 => h9 ⟨Int32.not_lt.mp hi, nI_le (by omega) (by omega)⟩, show nI j - 1 = nI (j - 1) from pk_sub (b := 1) (by omega), ld_58 (by omega), q1 _ hj2, getD_in (d := 0) hj2]
      rfl
    · rw [if_pos fun h9 => by have := (nI_leI hj (by omega)).mp h9.2; omega]
      rw [List.getElem?_eq_none (by omega)]
      rfl
theorem g225_s (M : MR S σ) (w : wSt σ) (x y : Int32) : g225 x y S = some (sNot σ x y, S) := by
  obtain ⟨_, _, _, _, p1, q1⟩ := M
  have w1 := w.2.2.2.2.1
  unfold g225 sNot
  rw [p1, g141_s]
  simp only [Option.bind_some, bZ_0, decide_eq_false_iff_not, inP (show σ.2.2.2.2.length < 2 ^ 31 by omega), g141_s]
  by_cases hi : x < 0
  · rw [if_pos hi, if_pos]
    · rfl
    · rintro ⟨j, hj, rfl⟩
      exact nI_pos (by omega) hi
  · obtain ⟨j, hj, rfl⟩ := nI_of hi
    rw [if_neg hi, nI_clamp hj]
    by_cases hj2 : j < σ.2.2.2.2.length
    · rw [if_neg fun h9 => h9 ⟨j, hj2, rfl⟩, ld_71 (by omega), ld_72 (by omega), (q1 j hj2).1, (q1 j hj2).2, getD_in (d := (0, 0)) hj2]
      simp only [Option.bind_some]
      by_cases y0 : y = 0
      · subst y0; rfl
      · by_cases y1 : y = 1
        · subst y1; rfl
        · rw [if_pos (show ¬ ((0 : Int32) ≤ y ∧ y ≤ 1) from in_no (n := 1) (by decide) fun k hk => ?_)]
          · simp [y0, y1, gj225_45, gj225_46]
          · have : k = 0 ∨ k = 1 := by omega
            rcases this with rfl | rfl
            · exact y0
            · exact y1
    · rw [if_pos]
      · rw [List.getElem?_eq_none (by omega)]
        rfl
      · rintro ⟨k, hk, e9⟩
        rw [nI_eq hj (by omega)] at e9
        omega
theorem take_s {α : Type} {l : List α} {j : Nat} (d : α) (h : j < l.length) : l.take (j + 1) = l.take j ++ [l.getD j d] := by
  rw [List.take_add_one, getD_in (d := d) h]
  rfl
theorem g226_s (M : MR S σ) (w : wSt σ) (x : Int32) : g226 x S = some (sCnt σ x, S) := by
  obtain ⟨⟨t1, _⟩, H, _⟩ := M
  have wE1 := w.2.1
  have w1 := wE1.1
  have key := l_fl (σ := Nat × Nat) (fun n j s => gl226_7 n x (nI s.1) (nI s.2) (nI j) S) (fun j s => (s.1 + (if (eOw (gE σ.2.1 j)).isNone = true then 1 else 0), s.2 + (if (eCm (gE σ.2.1 j)).isSome = true then 1 else 0))) (fun s => some (if x = 0 then nI σ.2.1.length else if x = 1 then nI s.1 else if x = 2 then nI σ.1.length else if x = 3 then nI s.2 else -1, S)) (fun j s => s = (((σ.2.1.take j).filter fun e => (eOw e).isNone).length, ((σ.2.1.take j).filter fun e => (eCm e).isSome).length)) σ.2.1.length (fun n s hs => ?_) (fun n j s hj hs => ?_) σ.2.1.length xFuel 0 (0, 0) (by omega) (pFuel _ (by omega)) (by simp)
  · unfold g226 sCnt
    refine Eq.trans key.1 ?_
    rw [key.2]
    simp only [List.take_length]
  · simp only [gl226_7, H.1, t1]
    rw [if_pos (nI_le (Nat.le_refl _) (by omega))]
    simp only [gj226_101]
    repeat' split
    all_goals rfl
  · obtain ⟨m1, _, _, m4⟩ := H.2 j hj
    constructor
    · simp (disch := omega) only [gl226_7, H.1, nI_leI, ld_3, Option.bind_some, m1.1, bZ_0, gj226_32, ld_13, gj226_51]
      rw [if_neg (by omega)]
      have k1 : ∀ (x2 : Int32), (S.2 13 j = -1) = ((eCm (gE σ.2.1 j)).isSome = false) := by
        intro _
        cases hc : eCm (gE σ.2.1 j) with
        | none => rw [hc] at m4; simp [m4.1]
        | some c =>
          rw [hc] at m4
          have := ((wE1.2 j hj).2.2.2.2.2.2.2.2 c hc).1.1
          rw [m4.1]
          simp [nI_nm (show c.1.length < 2 ^ 31 by omega)]
      simp only [k1 0, nI_1]
      cases (eOw (gE σ.2.1 j)).isNone <;> cases (eCm (gE σ.2.1 j)).isSome <;> simp [nI_1]
    · rw [hs, take_s dEn hj]
      simp only [List.filter_append, List.length_append]
      have e1 : σ.2.1.getD j dEn = gE σ.2.1 j := rfl
      rw [e1]
      cases h1 : (eOw (gE σ.2.1 j)).isNone <;> cases h2 : (eCm (gE σ.2.1 j)).isSome <;> simp [h1, h2]
end PMQ
