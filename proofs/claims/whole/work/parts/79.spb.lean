section PSPB
/-- best, with another beginning -/
theorem best_s (f : Nat → Nat) : ∀ k j (b : Nat × Nat), best f j (k + 1) b = if (best f (j - 1) k (j, f j)).2 < b.2 then best f (j - 1) k (j, f j) else b := by
  intro k
  induction k with
  | zero => intro j b; rfl
  | succ k ih =>
    intro j b
    rw [best, ih (j - 1), ih (j - 1) (j, f j)]
    generalize best f (j - 1 - 1) k (j - 1, f (j - 1)) = X
    dsimp only
    by_cases h1 : f j < b.2
    · rw [if_pos h1]
      dsimp only
      by_cases h2 : X.2 < f j
      · rw [if_pos h2, if_pos (by omega)]
      · rw [if_neg h2, if_pos h1]
    · rw [if_neg h1]
      by_cases h2 : X.2 < f j
      · rw [if_pos h2]
      · rw [if_neg h2, if_neg (by omega), if_neg (by dsimp only; omega)]
theorem best_in (f : Nat → Nat) : ∀ k j (b : Nat × Nat), best f j k b = b ∨ ∃ x, j < x + k ∧ x ≤ j ∧ best f j k b = (x, f x) := by
  intro k
  induction k with
  | zero => intro j b; exact Or.inl rfl
  | succ k ih =>
    intro j b
    rw [best]
    rcases ih (j - 1) (if f j < b.2 then (j, f j) else b) with h | ⟨x, h1, h2, h3⟩
    · rw [h]
      split
      · exact Or.inr ⟨j, by omega, Nat.le_refl _, rfl⟩
      · exact Or.inl rfl
    · by_cases hj : j = 0
      · subst hj
        exact Or.inr ⟨x, by omega, by omega, h3⟩
      · exact Or.inr ⟨x, by omega, by omega, h3⟩
/-- the best end of a line from i up to J -/
def bJ (ls : Bool) (f : Nat → Nat) (i J : Nat) : Nat × Nat := if ls = true then best f (J - 1) (J - 1 - i) (J, f J) else (J, f J)
theorem bJ_0 (ls : Bool) (f : Nat → Nat) (i : Nat) : bJ ls f i (i + 1) = (i + 1, f (i + 1)) := by
  unfold bJ
  rw [show i + 1 - 1 - i = 0 by omega]
  split <;> rfl
theorem bJ_s (ls : Bool) (f : Nat → Nat) {i J : Nat} (h : i < J) : bJ ls f i (J + 1) = if ls = true ∧ (bJ ls f i J).2 < f (J + 1) then bJ ls f i J else (J + 1, f (J + 1)) := by
  unfold bJ
  cases ls with
  | false => rfl
  | true =>
    rw [if_pos (Eq.refl true), if_pos (Eq.refl true), show J + 1 - 1 - i = (J - 1 - i) + 1 by omega, best_s, show J + 1 - 1 = J by omega]
    by_cases h2 : (best f (J - 1) (J - 1 - i) (J, f J)).2 < f (J + 1)
    · rw [if_pos h2, if_pos ⟨Eq.refl true, h2⟩]
    · rw [if_neg h2, if_neg fun h9 => h2 h9.2]
theorem bJ_in (ls : Bool) (f : Nat → Nat) {i J : Nat} (h : i < J) : ∃ x, i < x ∧ x ≤ J ∧ bJ ls f i J = (x, f x) := by
  unfold bJ
  cases ls with
  | false => exact ⟨J, h, Nat.le_refl _, rfl⟩
  | true =>
    rw [if_pos (Eq.refl true)]
    rcases best_in f (J - 1 - i) (J - 1) (J, f J) with h1 | ⟨x, h1, h2, h3⟩
    · rw [h1]
      exact ⟨J, h, Nat.le_refl _, rfl⟩
    · exact ⟨x, by omega, by omega, h3⟩
variable {c : Ck} {w fs ot : Nat} {ls : Bool}
theorem fill_ge (i : Nat) : ∀ k j, j ≤ fill c w fs ot i j k ∧ fill c w fs ot i j k ≤ j + k := by
  intro k
  induction k with
  | zero => intro j; exact ⟨Nat.le_refl _, Nat.le_refl _⟩
  | succ k ih =>
    intro j
    have := ih (j + 1)
    rw [fill]
    split <;> omega
/-- how bad a line from i up to j is, with what comes behind it -/
def plF (c : Ck) (w fs ot i : Nat) (t : List (Nat × Nat)) (j : Nat) : Nat := bdn c w fs ot i j + (t.getD (j - (i + 1)) (0, 0)).2
theorem plan_s (k : Nat) : plan c w fs ot ls (k + 1) = bJ ls (plF c w fs ot (c.2.1.length - (k + 1)) (plan c w fs ot ls k)) (c.2.1.length - (k + 1)) (fst' c w fs ot (c.2.1.length - (k + 1))) :: plan c w fs ot ls k := rfl
theorem plan_len : ∀ k, (plan c w fs ot ls k).length = k := by
  intro k
  induction k with
  | zero => rfl
  | succ k ih => rw [plan_s, List.length_cons, ih]
theorem bdn_le (hw : w ≤ 60) {i j : Nat} : bdn c w fs ot i j ≤ 3600 := by
  unfold bdn
  split
  · have h1 : w - cols c fs ot i j ≤ 60 := by omega
    calc _ ≤ 60 * 60 := Nat.mul_le_mul h1 h1
      _ = 3600 := rfl
  · exact Nat.zero_le _
theorem plan_b (hw : w ≤ 60) : ∀ k, k ≤ c.2.1.length → ∀ m, m < k → ((plan c w fs ot ls k).getD m (0, 0)).2 ≤ 3600 * k ∧ c.2.1.length - k + m < ((plan c w fs ot ls k).getD m (0, 0)).1 ∧ ((plan c w fs ot ls k).getD m (0, 0)).1 ≤ c.2.1.length := by
  intro k
  induction k with
  | zero => intro _ m h; omega
  | succ k ih =>
    intro hk m hm
    rw [plan_s]
    cases m with
    | succ m =>
      have := ih (by omega) m (by omega)
      rw [List.getD_cons_succ]
      omega
    | zero =>
      rw [List.getD_cons_zero]
      have f1 := fill_ge (c := c) (w := w) (fs := fs) (ot := ot) (c.2.1.length - (k + 1)) (c.2.1.length - (c.2.1.length - (k + 1) + 1)) (c.2.1.length - (k + 1) + 1)
      rw [show fill c w fs ot (c.2.1.length - (k + 1)) (c.2.1.length - (k + 1) + 1) (c.2.1.length - (c.2.1.length - (k + 1) + 1)) = fst' c w fs ot (c.2.1.length - (k + 1)) from rfl] at f1
      obtain ⟨x, h1, h2, h3⟩ := bJ_in ls (plF c w fs ot (c.2.1.length - (k + 1)) (plan c w fs ot ls k)) (i := c.2.1.length - (k + 1)) (J := fst' c w fs ot (c.2.1.length - (k + 1))) (by omega)
      rw [h3]
      dsimp only
      refine ⟨?_, by omega, by omega⟩
      unfold plF
      have b1 := bdn_le (c := c) (fs := fs) (ot := ot) hw (i := c.2.1.length - (k + 1)) (j := x)
      have b2 : ((plan c w fs ot ls k).getD (x - (c.2.1.length - (k + 1) + 1)) (0, 0)).2 ≤ 3600 * k := by
        by_cases h5 : x - (c.2.1.length - (k + 1) + 1) < k
        · exact (ih (by omega) _ h5).1
        · rw [List.getD_eq_getElem?_getD, List.getElem?_eq_none (by rw [plan_len]; omega)]
          exact Nat.zero_le _
      omega
/-- chunks begin one behind another -/
def ckM (c : Ck) : Prop := (∀ i, i + 1 < c.2.1.length → c.2.1.getD i 0 ≤ c.2.1.getD (i + 1) 0) ∧ ∀ i, i < c.2.1.length → c.2.1.getD i 0 ≤ c.1.length
theorem cks0_in {i : Nat} (h : i < c.2.1.length) : cks0 c i = c.2.1.getD i 0 := by
  unfold cks0
  simp only [List.getD_eq_getElem?_getD, List.getElem?_eq_getElem h, Option.getD_some]
theorem cks0_out {i : Nat} (h : c.2.1.length ≤ i) : cks0 c i = c.1.length := by
  unfold cks0
  simp only [List.getD_eq_getElem?_getD, List.getElem?_eq_none h, Option.getD_none]
theorem ckM.s (h : ckM c) {i : Nat} (hi : i < c.2.1.length) : cks0 c i ≤ cks0 c (i + 1) := by
  by_cases h1 : i + 1 < c.2.1.length
  · rw [cks0_in hi, cks0_in h1]
    exact h.1 i h1
  · rw [cks0_in hi, cks0_out (by omega)]
    exact h.2 i hi
theorem ckM.le (h : ckM c) {i : Nat} : cks0 c i ≤ c.1.length := by
  by_cases h1 : i < c.2.1.length
  · rw [cks0_in h1]
    exact h.2 i h1
  · rw [cks0_out (by omega)]
    exact Nat.le_refl _
theorem ckM.m (h : ckM c) : ∀ k i, i + k ≤ c.2.1.length → cks0 c i ≤ cks0 c (i + k) := by
  intro k
  induction k with
  | zero => intro i _; exact Nat.le_refl _
  | succ k ih =>
    intro i hi
    have h1 := ih i (by omega)
    have h2 := h.s (i := i + k) (by omega)
    rw [← Nat.add_assoc]
    omega
theorem ckM.add (h : ckM c) (l : List Nat) : ckM (c.1 ++ l, c.2.1, c.2.2) ∧ ckM (c.1 ++ l, c.2.1 ++ [c.1.length], c.2.2) := by
  refine ⟨⟨h.1, fun i hi => ?_⟩, fun i hi => ?_, fun i hi => ?_⟩
  · have := h.2 i hi
    simp only [List.length_append]
    omega
  · simp only [List.length_append, List.length_singleton] at hi
    dsimp only
    rw [gD_app (by omega), gD_app (by omega), if_neg (by omega)]
    by_cases h1 : i + 1 = c.2.1.length
    · rw [if_pos h1]
      exact h.2 i (by omega)
    · rw [if_neg h1]
      exact h.1 i (by omega)
  · simp only [List.length_append, List.length_singleton] at hi
    dsimp only
    rw [gD_app (by omega), List.length_append]
    by_cases h1 : i = c.2.1.length
    · rw [if_pos h1]
      omega
    · rw [if_neg h1]
      have := h.2 i (by omega)
      omega
theorem ckPc_m {es : List En} (e : Nat) (bs : List Nat) (p : Pc) (h : ckM c) : ckM (ckPc es e bs c p) := by
  unfold ckPc
  dsimp only
  have h1 := h.add (cut bs (pSf p) (pSt p) ++ (if pSo p = 2 then mark c.2.2 (lead es e (cut bs (pNf p) (pNt p))) else ([], c.2.2)).1)
  rw [← List.append_assoc] at h1
  generalize (if pSo p = 2 then mark c.2.2 (lead es e (cut bs (pNf p) (pNt p))) else ([], c.2.2)) = q at h1 ⊢
  by_cases h2 : pGl p = true
  · rw [if_pos h2]
    exact h1.1
  · rw [if_neg h2]
    exact h1.2
theorem cks_m {es : List En} (e : Nat) (m : Cm) (b : Bk) (ts : List Nat) : ckM (cks es e m b ts) := by
  unfold cks
  have h0 : ckM (ckHd es e m.1 b ts) := by
    unfold ckHd
    split
    · refine ⟨fun i hi => ?_, fun i hi => ?_⟩
      · exact absurd hi (by simp)
      · have hi : i < 1 := hi
        obtain rfl : i = 0 := by omega
        exact Nat.zero_le _
    · exact ⟨fun i hi => absurd hi (Nat.not_lt_zero _), fun i hi => absurd hi (Nat.not_lt_zero _)⟩
  generalize ckHd es e m.1 b ts = c0 at h0
  generalize (m.2.2.drop (bFi b)).take (bMa b) = ps
  induction ps generalizing c0 with
  | nil => exact h0
  | cons p ps ih =>
    rw [List.foldl_cons]
    exact ih _ (ckPc_m e m.1 p h0)
theorem cols_s (h : ckM c) {i j : Nat} (hij : i < j) (hj : j < c.2.1.length) : cols c fs ot i (j + 1) = cols c fs ot i j + ((cks0 c (j + 1) - cks0 c j) + 1) := by
  unfold cols
  have h1 := h.m (j - i) i (by omega)
  have h2 := h.s hj
  rw [show i + (j - i) = j by omega] at h1
  omega
theorem cols_0 {i : Nat} : cols c fs ot i (i + 1) = (if i = 0 then fs else ot) + ((cks0 c (i + 1) - cks0 c i) + 0) := by
  unfold cols
  omega
end PSPB
