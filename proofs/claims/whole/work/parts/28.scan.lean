section XSCAN
theorem xFuel_ge {n : Nat} (h : n ≤ 1000000) : ∃ k, xFuel = n + k := ⟨1000000 - n, by unfold xFuel; omega⟩
theorem fn135_spec (v lo hi : Int32) (h : xH) : fn135 v lo hi h = some (if lo ≤ v ∧ v ≤ hi then 1 else 0, h) := by
  by_cases h1 : v < lo
  · have h2 : ¬ (lo ≤ v ∧ v ≤ hi) := fun h9 => absurd h1 (Int32.not_lt.mpr h9.1)
    simp only [if_neg h2]
    unfold fn135
    simp only [if_pos h1]
    rfl
  · by_cases h2 : hi < v
    · have h3 : ¬ (lo ≤ v ∧ v ≤ hi) := fun h9 => absurd h2 (Int32.not_lt.mpr h9.2)
      simp only [if_neg h3]
      unfold fn135
      simp only [if_neg h1, if_pos h2]
      rfl
    · simp only [if_pos (⟨Int32.not_lt.mp h1, Int32.not_lt.mp h2⟩ : lo ≤ v ∧ v ≤ hi)]
      unfold fn135
      simp only [if_neg h1, if_neg h2]
      rfl
def isDg (v : Int32) : Prop := 48 ≤ v ∧ v ≤ 57
def isLt (v : Int32) : Prop := (65 ≤ v ∧ v ≤ 90) ∨ (97 ≤ v ∧ v ≤ 122)
theorem fn136_spec (v : Int32) (h : xH) : (isDg v → fn136 v h = some (1, h)) ∧ (¬ isDg v → fn136 v h = some (0, h)) := by
  unfold isDg fn136
  by_cases h1 : v < 48
  · refine ⟨fun h9 => absurd h1 (Int32.not_lt.mpr h9.1), fun _ => ?_⟩
    simp only [if_pos h1]
    rfl
  · by_cases h2 : 57 < v
    · refine ⟨fun h9 => absurd h2 (Int32.not_lt.mpr h9.2), fun _ => ?_⟩
      simp only [if_neg h1, if_pos h2]
      rfl
    · refine ⟨fun _ => ?_, fun h9 => absurd ⟨Int32.not_lt.mp h1, Int32.not_lt.mp h2⟩ h9⟩
      simp only [if_neg h1, if_neg h2]
      rfl
theorem fn137_spec (v : Int32) (h : xH) : (isLt v → fn137 v h = some (1, h)) ∧ (¬ isLt v → fn137 v h = some (0, h)) := by
  unfold isLt fn137 j137_12
  by_cases h1 : v < 65 <;> by_cases h2 : v ≤ 90 <;> by_cases h3 : v < 97 <;> by_cases h4 : 122 < v
  all_goals (refine ⟨fun h9 => ?_, fun h9 => ?_⟩)
  all_goals first
    | (simp only [h1, h2, h3, h4, if_true, if_false]; rfl)
    | (exfalso; simp only [Int32.lt_iff_toInt_lt, Int32.le_iff_toInt_le] at *; simp at *; omega)
/-- the first place from i on, k of them, with a byte; the end -/
def pOf (f : Nat → Int32) (c : Int32) : Nat → Nat → Nat
  | i, 0 => i
  | i, k + 1 => if f i = c then i else pOf f c (i + 1) k
def sB (f : Nat → Int32) : Nat → Nat → Nat
  | i, 0 => i
  | i, k + 1 => if f i = 32 then sB f (i + 1) k else i
theorem TextAt.cv {h : xH} {t b room : Nat} {bs : List Nat} (hT : TextAt h t b room bs) : xcv h (some t) 9 = some () := xcv_of hT.2.2.2.1 hT.1 (by omega)
theorem l105_spec {h : xH} {t b room : Nat} {bs : List Nat} (hT : TextAt h t b room bs) (c x2 : Int32) : ∀ (k n i : Nat), k < n → i + k < 2 ^ 31 → l105_3 n (some t) c x2 (nI (i + k)) (nI i) h = some (nI (pOf (fun j => bAt bs (nI j)) c i k), h) := by
  intro k
  induction k with
  | zero =>
    intro n i hn hi
    obtain ⟨n, rfl⟩ : ∃ m, n = m + 1 := ⟨n - 1, by omega⟩
    simp only [Nat.add_zero] at hi ⊢
    unfold l105_3
    rw [if_pos (nI_le (Nat.le_refl i) hi)]
    rfl
  | succ k ih =>
    intro n i hn hi
    obtain ⟨n, rfl⟩ : ∃ m, n = m + 1 := ⟨n - 1, by omega⟩
    unfold l105_3
    simp only [if_neg (nI_ge (show i < i + (k + 1) by omega) hi)]
    rw [hT.cv, fn96_spec hT]
    simp only [Option.bind_some, pOf]
    by_cases h1 : bAt bs (nI i) = c
    · simp only [if_pos h1]
      rfl
    · simp only [if_neg h1, nI_1]
      have := ih n (i + 1) (by omega) (by omega)
      rw [show i + 1 + k = i + (k + 1) by omega] at this
      exact this
theorem fn105_spec {h : xH} {t b room : Nat} {bs : List Nat} (hT : TextAt h t b room bs) (c : Int32) (i k : Nat) (hk : k < 1000000) (hi : i + k < 2 ^ 31) : fn105 (some t) c (nI i) (nI (i + k)) h = some (nI (pOf (fun j => bAt bs (nI j)) c i k), h) := l105_spec hT c (nI i) k xFuel i hk hi
theorem l106_spec {h : xH} {t b room : Nat} {bs : List Nat} (hT : TextAt h t b room bs) (x1 : Int32) : ∀ (k n i : Nat), k < n → i + k < 2 ^ 31 → l106_2 n (some t) x1 (nI (i + k)) (nI i) h = some (nI (sB (fun j => bAt bs (nI j)) i k), h) := by
  intro k
  induction k with
  | zero =>
    intro n i hn hi
    obtain ⟨n, rfl⟩ : ∃ m, n = m + 1 := ⟨n - 1, by omega⟩
    simp only [Nat.add_zero] at hi ⊢
    unfold l106_2
    rw [if_pos (nI_le (Nat.le_refl i) hi)]
    rfl
  | succ k ih =>
    intro n i hn hi
    obtain ⟨n, rfl⟩ : ∃ m, n = m + 1 := ⟨n - 1, by omega⟩
    unfold l106_2
    simp only [if_neg (nI_ge (show i < i + (k + 1) by omega) hi)]
    rw [hT.cv, fn96_spec hT]
    simp only [Option.bind_some, sB]
    by_cases h1 : bAt bs (nI i) = 32
    · simp only [if_pos h1, nI_1]
      have := ih n (i + 1) (by omega) (by omega)
      rw [show i + 1 + k = i + (k + 1) by omega] at this
      exact this
    · simp only [if_neg h1]
      rfl
theorem fn106_spec {h : xH} {t b room : Nat} {bs : List Nat} (hT : TextAt h t b room bs) (i k : Nat) (hk : k < 1000000) (hi : i + k < 2 ^ 31) : fn106 (some t) (nI i) (nI (i + k)) h = some (nI (sB (fun j => bAt bs (nI j)) i k), h) := l106_spec hT (nI i) k xFuel i hk hi
/-- a NAME of k bytes from i on -/
def isNm (f : Nat → Int32) (i k : Nat) : Prop := k ≤ 10 ∧ isLt (f i) ∧ 0 < k ∧ ∀ j, j < k → isLt (f (i + j)) ∨ isDg (f (i + j))
theorem l107_spec {h : xH} {t b room : Nat} {bs : List Nat} (hT : TextAt h t b room bs) (i0 : Nat) : ∀ (k n i : Nat), k < n → i + k < 2 ^ 31 → ((i0 < i + k ∧ ∀ j, j < k → isLt (bAt bs (nI (i + j))) ∨ isDg (bAt bs (nI (i + j)))) → l107_23 n (some t) (nI i0) (nI (i + k)) (nI i) h = some (1, h)) ∧ (¬ (i0 < i + k ∧ ∀ j, j < k → isLt (bAt bs (nI (i + j))) ∨ isDg (bAt bs (nI (i + j)))) → i0 ≤ i → l107_23 n (some t) (nI i0) (nI (i + k)) (nI i) h = some (0, h)) := by
  intro k
  induction k with
  | zero =>
    intro n i hn hi
    obtain ⟨n, rfl⟩ : ∃ m, n = m + 1 := ⟨n - 1, by omega⟩
    rw [Nat.add_zero] at hi ⊢
    unfold l107_23
    simp only [if_pos (nI_le (Nat.le_refl i) hi)]
    constructor
    · intro h1
      simp only [if_neg (nI_ge h1.1 hi)]
      rfl
    · intro h1 h2
      have h3 : i = i0 := by
        rcases Nat.lt_or_ge i0 i with h9 | h9
        · exact absurd ⟨h9, fun j hj => absurd hj (by omega)⟩ h1
        · omega
      subst h3
      simp only [if_pos (nI_le (Nat.le_refl i) hi)]
      rfl
  | succ k ih =>
    intro n i hn hi
    obtain ⟨n, rfl⟩ : ∃ m, n = m + 1 := ⟨n - 1, by omega⟩
    have ih2 := ih n (i + 1) (by omega) (by omega)
    rw [show i + 1 + k = i + (k + 1) by omega] at ih2
    unfold l107_23
    simp only [if_neg (nI_ge (show i < i + (k + 1) by omega) hi)]
    rw [hT.cv, fn96_spec hT]
    simp only [Option.bind_some]
    have key : ∀ P : Prop, (P ↔ (isLt (bAt bs (nI i)) ∨ isDg (bAt bs (nI i)))) → ((i0 < i + (k + 1) ∧ ∀ j, j < k + 1 → isLt (bAt bs (nI (i + j))) ∨ isDg (bAt bs (nI (i + j)))) ↔ P ∧ (i0 < i + (k + 1) ∧ ∀ j, j < k → isLt (bAt bs (nI (i + 1 + j))) ∨ isDg (bAt bs (nI (i + 1 + j))))) := by
      intro P hP
      constructor
      · intro ⟨h1, h2⟩
        exact ⟨hP.mpr (h2 0 (by omega)), h1, fun j hj => by rw [show i + 1 + j = i + (j + 1) by omega]; exact h2 (j + 1) (by omega)⟩
      · intro ⟨h1, h2, h3⟩
        refine ⟨h2, fun j hj => ?_⟩
        cases j with
        | zero => exact hP.mp h1
        | succ j =>
          have := h3 j (by omega)
          rwa [show i + 1 + j = i + (j + 1) by omega] at this
    by_cases hl : isLt (bAt bs (nI i))
    · rw [(fn137_spec _ h).1 hl]
      simp only [Option.bind_some, if_neg (show ¬ (1 : Int32) = 0 by decide)]
      unfold j107_52
      rw [nI_1]
      rw [key True ⟨fun _ => Or.inl hl, fun _ => trivial⟩]
      exact ⟨fun h9 => ih2.1 h9.2, fun h9 h8 => ih2.2 (fun h7 => h9 ⟨trivial, h7⟩) (by omega)⟩
    · rw [(fn137_spec _ h).2 hl]
      simp only [Option.bind_some, if_true]
      rw [hT.cv, fn96_spec hT]
      simp only [Option.bind_some]
      by_cases hd : isDg (bAt bs (nI i))
      · rw [(fn136_spec _ h).1 hd]
        simp only [Option.bind_some, if_neg (show ¬ (1 : Int32) = 0 by decide)]
        unfold j107_52
        rw [nI_1]
        rw [key True ⟨fun _ => Or.inr hd, fun _ => trivial⟩]
        exact ⟨fun h9 => ih2.1 h9.2, fun h9 h8 => ih2.2 (fun h7 => h9 ⟨trivial, h7⟩) (by omega)⟩
      · rw [(fn136_spec _ h).2 hd]
        simp only [Option.bind_some, if_true]
        rw [key False ⟨fun h9 => h9.elim, fun h9 => h9.elim hl hd⟩]
        exact ⟨fun h9 => h9.1.elim, fun _ _ => trivial⟩
theorem fn107_spec {h : xH} {t b room : Nat} {bs : List Nat} (hT : TextAt h t b room bs) (i k : Nat) (hk : k < 1000000) (hi : i + k < 2 ^ 30) : (isNm (fun j => bAt bs (nI j)) i k → fn107 (some t) (nI i) (nI (i + k)) h = some (1, h)) ∧ (¬ isNm (fun j => bAt bs (nI j)) i k → fn107 (some t) (nI i) (nI (i + k)) h = some (0, h)) := by
  unfold fn107 isNm
  have e1 : nI (i + k) - nI i = nI k := by rw [pk_sub (by omega)]; congr 1; omega
  rw [e1]
  by_cases h10 : k ≤ 10
  · have h11 : ¬ (10 : Int32) < nI k := fun h9 => by
      have := (nI_ltI (a := 10) (b := k) (by omega) (by omega)).mp h9
      omega
    simp only [if_neg h11]
    rw [hT.cv, fn96_spec hT]
    simp only [Option.bind_some]
    by_cases hl : isLt (bAt bs (nI i))
    · rw [(fn137_spec _ h).1 hl]
      simp only [Option.bind_some, if_neg (show ¬ (1 : Int32) = 0 by decide)]
      have h2 := l107_spec hT i k xFuel i hk (by omega)
      refine ⟨fun h9 => h2.1 ⟨by omega, h9.2.2.2⟩, fun h9 => h2.2 (fun h8 => h9 ⟨h10, hl, by omega, h8.2⟩) (Nat.le_refl i)⟩
    · rw [(fn137_spec _ h).2 hl]
      simp only [Option.bind_some, if_true]
      exact ⟨fun h9 => absurd h9.2.1 hl, fun _ => rfl⟩
  · have h11 : (10 : Int32) < nI k := (nI_ltI (a := 10) (b := k) (by omega) (by omega)).mpr (by omega)
    simp only [if_pos h11]
    exact ⟨fun h9 => absurd h9.1 h10, fun _ => rfl⟩
end XSCAN
