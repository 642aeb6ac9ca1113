section PMLOOK
/-- all of k from i on -/
def al (p : Nat → Bool) : Nat → Nat → Bool
  | _, 0 => true
  | i, k + 1 => p i && al p (i + 1) k
theorem al_iff (p : Nat → Bool) : ∀ k i, al p i k = true ↔ ∀ j, i ≤ j → j < i + k → p j = true := by
  intro k
  induction k with
  | zero => intro i; exact ⟨fun _ j h1 h2 => absurd h1 (by omega), fun _ => rfl⟩
  | succ k ih =>
    intro i
    unfold al
    rw [Bool.and_eq_true, ih]
    refine ⟨fun ⟨a, b⟩ j h1 h2 => ?_, fun h => ⟨h i (Nat.le_refl _) (by omega), fun j h1 h2 => h j (by omega) (by omega)⟩⟩
    by_cases hj : i = j
    · subst hj
      exact a
    · exact b j (by omega) (by omega)
theorem l_al {α : Type} (L : Nat → Bool → Nat → Option α) (p : Nat → Bool) (fin : Bool → Option α) (e : Nat) (h0 : ∀ n b, L (n + 1) b e = fin b) (h1 : ∀ n i, i < e → L (n + 1) false i = fin false) (h2 : ∀ n i, i < e → L (n + 1) true i = L n (p i) (i + 1)) : ∀ k n i b, i + k = e → k < n → L n b i = fin (b && al p i k) := by
  intro k
  induction k with
  | zero =>
    intro n i b hi hn
    obtain ⟨n, rfl⟩ : ∃ m, n = m + 1 := ⟨n - 1, by omega⟩
    have : i = e := by omega
    subst this
    rw [h0]
    simp [al]
  | succ k ih =>
    intro n i b hi hn
    obtain ⟨n, rfl⟩ : ∃ m, n = m + 1 := ⟨n - 1, by omega⟩
    cases b with
    | false => rw [h1 n i (by omega)]; rfl
    | true =>
      rw [h2 n i (by omega), ih n (i + 1) (p i) (by omega) (by omega)]
      rfl
theorem g141_s (v lo hi : Int32) (S : mS) : g141 v lo hi S = some (bZ (decide (lo ≤ v ∧ v ≤ hi)), S) := by
  unfold g141
  rw [in_g]
  by_cases h : lo ≤ v ∧ v ≤ hi
  · rw [if_pos h, decide_eq_true h]
    rfl
  · rw [if_neg h, decide_eq_false h]
    rfl
theorem g145_s {c : Nat} (h : c < 2 ^ 31) (S : mS) : g145 (nI c) S = some (bZ (isBg c), S) := by
  unfold g145
  rw [in_g]
  simp (disch := omega) only [lt_2, lt_3, lt_4, lt_5, lt_6, lt_7, lt_8, lt_9, lt_10, lt_12, lt_13, lt_14, lt_15, lt_16, lt_20, lt_24, lt_25, lt_32, lt_39, lt_40, lt_41, lt_45, lt_46, lt_48, lt_57, lt_60, lt_63, lt_64, lt_65, lt_90, lt_91, lt_93, lt_97, lt_120, lt_121, lt_122, lt_123, lt_125, lt_126, lt_130, lt_600, lt_960, lt_999, lt_1000, lt_1091, lt_1200, lt_3000, lt_4000, lt_4001, lt_4002, lt_4800, lt_24000, nI_add, pk_mul, nI_leI, nI_ltI, nI_eq, nI_1]
  by_cases h : 65 ≤ c ∧ c ≤ 90
  · rw [if_pos h]
    simp [isBg, h, bZ, gj145_17]
  · rw [if_neg h]
    have : isBg c = false := by simp [isBg]; omega
    rw [this]
    rfl
theorem g146_s {c : Nat} (h : c < 2 ^ 31) (S : mS) : g146 (nI c) S = some (bZ (isSm c), S) := by
  unfold g146
  rw [in_g]
  simp (disch := omega) only [lt_2, lt_3, lt_4, lt_5, lt_6, lt_7, lt_8, lt_9, lt_10, lt_12, lt_13, lt_14, lt_15, lt_16, lt_20, lt_24, lt_25, lt_32, lt_39, lt_40, lt_41, lt_45, lt_46, lt_48, lt_57, lt_60, lt_63, lt_64, lt_65, lt_90, lt_91, lt_93, lt_97, lt_120, lt_121, lt_122, lt_123, lt_125, lt_126, lt_130, lt_600, lt_960, lt_999, lt_1000, lt_1091, lt_1200, lt_3000, lt_4000, lt_4001, lt_4002, lt_4800, lt_24000, nI_add, pk_mul, nI_leI, nI_ltI, nI_eq, nI_1]
  by_cases h : 97 ≤ c ∧ c ≤ 122
  · rw [if_pos h]
    simp [isSm, h, bZ, gj146_17]
  · rw [if_neg h]
    have : isSm c = false := by simp [isSm]; omega
    rw [this]
    rfl
theorem g147_s {c : Nat} (h : c < 2 ^ 31) (S : mS) : g147 (nI c) S = some (bZ (isFg c), S) := by
  unfold g147
  rw [in_g]
  simp (disch := omega) only [lt_2, lt_3, lt_4, lt_5, lt_6, lt_7, lt_8, lt_9, lt_10, lt_12, lt_13, lt_14, lt_15, lt_16, lt_20, lt_24, lt_25, lt_32, lt_39, lt_40, lt_41, lt_45, lt_46, lt_48, lt_57, lt_60, lt_63, lt_64, lt_65, lt_90, lt_91, lt_93, lt_97, lt_120, lt_121, lt_122, lt_123, lt_125, lt_126, lt_130, lt_600, lt_960, lt_999, lt_1000, lt_1091, lt_1200, lt_3000, lt_4000, lt_4001, lt_4002, lt_4800, lt_24000, nI_add, pk_mul, nI_leI, nI_ltI, nI_eq, nI_1]
  by_cases h : 48 ≤ c ∧ c ≤ 57
  · rw [if_pos h]
    simp [isFg, h, bZ, gj147_17]
  · rw [if_neg h]
    have : isFg c = false := by simp [isFg]; omega
    rw [this]
    rfl
theorem g161_s {c : Nat} (h : c < 2 ^ 31) (S : mS) : g161 (nI c) S = some (bZ (isNB c), S) := by
  unfold g161
  simp (disch := omega) only [g145_s, g146_s, g147_s, Option.bind_some, bZ_0, isNB]
  cases isBg c <;> cases isSm c <;> cases isFg c <;> rfl
/-- bytes of an array -/
def aF (S : mS) (q off : Nat) (f : Nat → Nat) (N : Nat) : Prop := off + N ≤ mSz.getD q 0 ∧ mSz.getD q 0 < 30000 ∧ ∀ i, i < N → f i < 256 ∧ S.2 q (off + i) = nI (f i)
theorem aF.ld {S : mS} {q off N : Nat} {f : Nat → Nat} (A : aF S q off f N) {i : Nat} (h : i < N) : sLd S q (nI (off + i)) = some (nI (f i)) := by
  rw [sLd_n (N := mSz.getD q 0) (by have := A.1; omega) ⟨rfl, by have := A.2.1; omega⟩, (A.2.2 i h).2]
/-- the NAME at i, up to e: how long; 0: none -/
def nmAt (f : Nat → Nat) (i e : Nat) : Nat :=
  let n := sc (fun j => !isNB (f j)) i (e - i) - i
  if n < 1 ∨ 10 < n ∨ isFg (f i) = true then 0 else n
variable {S : mS} {q off N : Nat} {f : Nat → Nat}
theorem sc_sh (p : Nat → Bool) (i : Nat) : ∀ m j, sc p (i + j) m = i + sc (fun k => p (i + k)) j m := by
  intro m
  induction m with
  | zero => intro j; rfl
  | succ m ih =>
    intro j
    unfold sc
    split
    · rfl
    · exact ih (j + 1)
theorem sc_cg {p r : Nat → Bool} : ∀ m i, (∀ j, i ≤ j → j < i + m → p j = r j) → sc p i m = sc r i m := by
  intro m
  induction m with
  | zero => intro i _; rfl
  | succ m ih =>
    intro i h
    unfold sc
    rw [h i (Nat.le_refl _) (by omega), ih (i + 1) fun j h1 h2 => h j (by omega) (by omega)]
theorem g162_s (A : aF S q off f N) {i e : Nat} (hi : i ≤ e) (he : e ≤ N) : g162 q (nI (off + i)) (nI (off + e)) S = some (nI (nmAt f i e), S) := by
  have a1 := A.1
  have a2 := A.2.1
  unfold g162
  have key := l_sc (fun n k => gl162_2 n q (nI (off + i)) (nI (off + e)) (nI k) S) (fun k => !isNB (f (i + k))) (fun k => gj162_26 q (nI (off + i)) (nI (off + e)) (nI k) S) (e - i) (fun n => ?_) (fun n k hk hp => ?_) (fun n k hk hp => ?_) (e - i) xFuel 0 (by omega) (pFuel _ (by omega))
  · refine Eq.trans key ?_
    have e1 := sc_sh (fun j => !isNB (f j)) i (e - i) 0
    rw [Nat.add_zero] at e1
    have e2 := sc_ge (fun k => !isNB (f (i + k))) (e - i) 0
    unfold nmAt
    rw [e1, Nat.add_sub_cancel_left]
    generalize sc (fun k => !isNB (f (i + k))) 0 (e - i) = m at e2
    unfold gj162_26
    have e3 : (nI m < 1) = (m < 1) := propext (nI_ltI (b := 1) (by omega) (by omega))
    by_cases h1 : m < 1
    · simp only [e3]
      simp [h1, gj162_46, gj162_51, nI_0]
    have c1 : sLd S q (nI (off + i)) = some (nI (f i)) := A.ld (by omega)
    have c2 := (A.2.2 i (by omega)).1
    rw [c1]
    simp (disch := omega) only [lt_2, lt_3, lt_4, lt_5, lt_6, lt_7, lt_8, lt_9, lt_10, lt_12, lt_13, lt_14, lt_15, lt_16, lt_20, lt_24, lt_25, lt_32, lt_39, lt_40, lt_41, lt_45, lt_46, lt_48, lt_57, lt_60, lt_63, lt_64, lt_65, lt_90, lt_91, lt_93, lt_97, lt_120, lt_121, lt_122, lt_123, lt_125, lt_126, lt_130, lt_600, lt_960, lt_999, lt_1000, lt_1091, lt_1200, lt_3000, lt_4000, lt_4001, lt_4002, lt_4800, lt_24000, nI_add, pk_mul, nI_leI, nI_ltI, nI_eq, nI_1, e3, Option.bind_some, g147_s, bZ_0]
    by_cases h2 : 10 < m
    · simp [h1, h2, gj162_46, gj162_51, nI_0]
    · cases h3 : isFg (f i) <;> simp [h1, h2, h3, gj162_46, gj162_51, nI_0]
  · simp (disch := omega) only [gl162_2, lt_2, lt_3, lt_4, lt_5, lt_6, lt_7, lt_8, lt_9, lt_10, lt_12, lt_13, lt_14, lt_15, lt_16, lt_20, lt_24, lt_25, lt_32, lt_39, lt_40, lt_41, lt_45, lt_46, lt_48, lt_57, lt_60, lt_63, lt_64, lt_65, lt_90, lt_91, lt_93, lt_97, lt_120, lt_121, lt_122, lt_123, lt_125, lt_126, lt_130, lt_600, lt_960, lt_999, lt_1000, lt_1091, lt_1200, lt_3000, lt_4000, lt_4001, lt_4002, lt_4800, lt_24000, nI_add, pk_mul, nI_leI, nI_ltI, nI_eq, nI_1]
    rw [if_pos (by omega)]
  · simp (disch := omega) only [gl162_2, lt_2, lt_3, lt_4, lt_5, lt_6, lt_7, lt_8, lt_9, lt_10, lt_12, lt_13, lt_14, lt_15, lt_16, lt_20, lt_24, lt_25, lt_32, lt_39, lt_40, lt_41, lt_45, lt_46, lt_48, lt_57, lt_60, lt_63, lt_64, lt_65, lt_90, lt_91, lt_93, lt_97, lt_120, lt_121, lt_122, lt_123, lt_125, lt_126, lt_130, lt_600, lt_960, lt_999, lt_1000, lt_1091, lt_1200, lt_3000, lt_4000, lt_4001, lt_4002, lt_4800, lt_24000, nI_add, pk_mul, nI_leI, nI_ltI, nI_eq, nI_1]
    rw [if_neg (by omega), Nat.add_assoc, A.ld (by omega)]
    have := (A.2.2 (i + k) (by omega)).1
    simp (disch := omega) only [Option.bind_some, g161_s, bZ_0]
    rw [if_pos (by simpa using hp)]
  · simp (disch := omega) only [gl162_2, lt_2, lt_3, lt_4, lt_5, lt_6, lt_7, lt_8, lt_9, lt_10, lt_12, lt_13, lt_14, lt_15, lt_16, lt_20, lt_24, lt_25, lt_32, lt_39, lt_40, lt_41, lt_45, lt_46, lt_48, lt_57, lt_60, lt_63, lt_64, lt_65, lt_90, lt_91, lt_93, lt_97, lt_120, lt_121, lt_122, lt_123, lt_125, lt_126, lt_130, lt_600, lt_960, lt_999, lt_1000, lt_1091, lt_1200, lt_3000, lt_4000, lt_4001, lt_4002, lt_4800, lt_24000, nI_add, pk_mul, nI_leI, nI_ltI, nI_eq, nI_1]
    rw [if_neg (by omega), Nat.add_assoc, A.ld (by omega)]
    have := (A.2.2 (i + k) (by omega)).1
    simp (disch := omega) only [Option.bind_some, g161_s, bZ_0, nI_1]
    rw [if_neg (by simpa using hp)]
theorem nmAt_le (f : Nat → Nat) (i e : Nat) : nmAt f i e ≤ 10 ∧ nmAt f i e ≤ e - i := by
  unfold nmAt
  have := sc_ge (fun j => !isNB (f j)) (e - i) i
  dsimp only
  split <;> omega
/-- the REFERENCE at i, up to e: how long -/
def rfAt (f : Nat → Nat) (i e : Nat) : Nat :=
  let n := nmAt f i e
  if n = 0 ∨ e ≤ i + n ∨ f (i + n) ≠ 46 then n else
  let m := nmAt f (i + n + 1) e
  if m = 0 then 0 else n + 1 + m
theorem g163_s (A : aF S q off f N) {i e : Nat} (hi : i ≤ e) (he : e ≤ N) : g163 q (nI (off + i)) (nI (off + e)) S = some (nI (rfAt f i e), S) := by
  have a1 := A.1
  have a2 := A.2.1
  unfold g163 rfAt
  rw [g162_s A hi he]
  have n1 := nmAt_le f i e
  generalize nmAt f i e = n at n1
  simp (disch := omega) only [lt_2, lt_3, lt_4, lt_5, lt_6, lt_7, lt_8, lt_9, lt_10, lt_12, lt_13, lt_14, lt_15, lt_16, lt_20, lt_24, lt_25, lt_32, lt_39, lt_40, lt_41, lt_45, lt_46, lt_48, lt_57, lt_60, lt_63, lt_64, lt_65, lt_90, lt_91, lt_93, lt_97, lt_120, lt_121, lt_122, lt_123, lt_125, lt_126, lt_130, lt_600, lt_960, lt_999, lt_1000, lt_1091, lt_1200, lt_3000, lt_4000, lt_4001, lt_4002, lt_4800, lt_24000, nI_add, pk_mul, nI_leI, nI_ltI, nI_eq, nI_1, Option.bind_some, nI_z]
  by_cases h1 : n = 0
  · simp [h1, gj163_28]
  · by_cases h2 : e ≤ i + n
    · simp [h1, h2, gj163_28, show off + e ≤ off + i + n by omega]
    · rw [if_neg h1, if_neg (by omega), Nat.add_assoc off, A.ld (by omega)]
      have c2 := (A.2.2 (i + n) (by omega)).1
      simp (disch := omega) only [lt_2, lt_3, lt_4, lt_5, lt_6, lt_7, lt_8, lt_9, lt_10, lt_12, lt_13, lt_14, lt_15, lt_16, lt_20, lt_24, lt_25, lt_32, lt_39, lt_40, lt_41, lt_45, lt_46, lt_48, lt_57, lt_60, lt_63, lt_64, lt_65, lt_90, lt_91, lt_93, lt_97, lt_120, lt_121, lt_122, lt_123, lt_125, lt_126, lt_130, lt_600, lt_960, lt_999, lt_1000, lt_1091, lt_1200, lt_3000, lt_4000, lt_4001, lt_4002, lt_4800, lt_24000, nI_add, pk_mul, nI_leI, nI_ltI, nI_eq, nI_1, Option.bind_some]
      by_cases h3 : f (i + n) = 46
      · have e5 := g162_s A (i := i + n + 1) (e := e) (by omega) he
        have n2 := nmAt_le f (i + n + 1) e
        rw [if_pos h3, show off + (i + n) + 1 = off + (i + n + 1) by omega, e5]
        generalize nmAt f (i + n + 1) e = m at n2
        simp (disch := omega) only [lt_2, lt_3, lt_4, lt_5, lt_6, lt_7, lt_8, lt_9, lt_10, lt_12, lt_13, lt_14, lt_15, lt_16, lt_20, lt_24, lt_25, lt_32, lt_39, lt_40, lt_41, lt_45, lt_46, lt_48, lt_57, lt_60, lt_63, lt_64, lt_65, lt_90, lt_91, lt_93, lt_97, lt_120, lt_121, lt_122, lt_123, lt_125, lt_126, lt_130, lt_600, lt_960, lt_999, lt_1000, lt_1091, lt_1200, lt_3000, lt_4000, lt_4001, lt_4002, lt_4800, lt_24000, nI_add, pk_mul, nI_leI, nI_ltI, nI_eq, nI_1, Option.bind_some, nI_z]
        by_cases h4 : m = 0
        · simp [h1, h2, h3, h4, gj163_57, nI_0]
        · simp [h1, h2, h3, h4, gj163_57]
      · simp [h1, h2, h3, gj163_28]
theorem isNB_46 : isNB 46 = false := by decide
theorem nmAt_nm (f : Nat → Nat) {i e k : Nat} (hk : i + k ≤ e) (h : nmOK f i k = true) (hd : i + k = e ∨ isNB (f (i + k)) = false) : nmAt f i e = k := by
  simp only [nmOK, Bool.and_eq_true, decide_eq_true_eq, Bool.or_eq_true] at h
  obtain ⟨⟨⟨h1, h2⟩, h3⟩, h4⟩ := h
  have e1 : sc (fun j => !isNB (f j)) i (e - i) = i + k := by
    refine sc_un _ (by omega) (by omega) (fun j a b => ?_) (fun a => ?_)
    · exact sc_no (fun j => !isNB (f j)) k i j a (by omega)
    · rcases hd with hd | hd
      · omega
      · simp [hd]
  have h5 : isFg (f i) = false := by
    cases h6 : isFg (f i) with
    | false => rfl
    | true =>
      simp [isFg, isBg, isSm] at h6 h3
      omega
  unfold nmAt
  rw [e1, h5]
  simp
  omega
theorem nmAt_ok (f : Nat → Nat) {i e : Nat} (h : nmAt f i e ≠ 0) : nmOK f i (nmAt f i e) = true ∧ (i + nmAt f i e < e → isNB (f (i + nmAt f i e)) = false) := by
  have a := sc_ge (fun j => !isNB (f j)) (e - i) i
  have b := sc_no (fun j => !isNB (f j)) (e - i) i
  have c := sc_at (fun j => !isNB (f j)) (e - i) i
  unfold nmAt at h ⊢
  dsimp only at h ⊢
  generalize sc (fun j => !isNB (f j)) i (e - i) = m at a b c h
  by_cases hc : m - i < 1 ∨ 10 < m - i ∨ isFg (f i) = true
  · rw [if_pos hc] at h
    exact absurd rfl h
  · rw [if_neg hc] at h ⊢
    have h0 : ¬ isFg (f i) = true := fun h9 => hc (Or.inr (Or.inr h9))
    have h1 := b i (Nat.le_refl _) (by omega)
    simp only [Bool.not_eq_false'] at h1
    have h2 : (isBg (f i) || isSm (f i)) = true := by
      unfold isNB at h1
      rw [Bool.or_eq_true] at h1
      exact h1.resolve_right h0
    refine ⟨?_, fun h3 => ?_⟩
    · simp only [nmOK, Bool.and_eq_true, decide_eq_true_eq]
      refine ⟨⟨⟨by omega, by omega⟩, h2⟩, ?_⟩
      exact sc_un _ (by omega) (by omega) (fun j x y => b j x (by omega)) (fun x => by omega)
    · have := c (by omega)
      rw [show i + (m - i) = m by omega]
      simpa using this
theorem nmOK_NB {f : Nat → Nat} {i k : Nat} (h : nmOK f i k = true) : 1 ≤ k ∧ k ≤ 10 ∧ (isBg (f i) || isSm (f i)) = true ∧ ∀ j, i ≤ j → j < i + k → isNB (f j) = true := by
  simp only [nmOK, Bool.and_eq_true, decide_eq_true_eq] at h
  obtain ⟨⟨⟨h1, h2⟩, h3⟩, h4⟩ := h
  refine ⟨h1, h2, h3, fun j a b => ?_⟩
  have := sc_no (fun j => !isNB (f j)) k i j a (by omega)
  simpa using this
theorem NB_dot {c : Nat} (h : isNB c = true) : (c == 46) = false := by
  cases h2 : c == 46 with
  | false => rfl
  | true =>
    rw [beq_iff_eq] at h2
    subst h2
    exact absurd h (by decide)
theorem rfAt_iff (f : Nat → Nat) (i k : Nat) : rfOK f i k = true ↔ 0 < k ∧ rfAt f i (i + k) = k := by
  unfold rfOK
  dsimp only
  have a := sc_ge (fun j => f j == 46) k i
  have b := sc_no (fun j => f j == 46) k i
  have c := sc_at (fun j => f j == 46) k i
  constructor
  · generalize sc (fun j => f j == 46) i k = d at a b c
    intro h
    rw [Bool.and_eq_true, Bool.or_eq_true, decide_eq_true_eq] at h
    obtain ⟨h1, h2⟩ := h
    have n1 := nmOK_NB h1
    refine ⟨by omega, ?_⟩
    have hd : i + (d - i) = d := by omega
    have e1 : nmAt f i (i + k) = d - i := by
      refine nmAt_nm f (by omega) h1 ?_
      rw [hd]
      by_cases hk : d = i + k
      · exact Or.inl hk
      · have := c (by omega)
        rw [beq_iff_eq] at this
        rw [this]
        exact Or.inr isNB_46
    unfold rfAt
    dsimp only
    rw [e1, hd]
    by_cases hk : d = i + k
    · rw [if_pos (Or.inr (Or.inl (by omega)))]
      omega
    · have h46 := c (by omega)
      rw [beq_iff_eq] at h46
      rw [if_neg (by omega)]
      have h3 := h2.resolve_left hk
      have n2 := nmOK_NB h3
      have e2 : nmAt f (d + 1) (i + k) = i + k - (d + 1) := nmAt_nm f (by omega) h3 (Or.inl (by omega))
      rw [e2, if_neg (by omega)]
      omega
  · rintro ⟨h0, h⟩
    unfold rfAt at h
    dsimp only at h
    by_cases hn : nmAt f i (i + k) = 0 ∨ i + k ≤ i + nmAt f i (i + k) ∨ f (i + nmAt f i (i + k)) ≠ 46
    · rw [if_pos hn] at h
      have n1 := nmAt_ok f (i := i) (e := i + k) (by omega)
      rw [h] at n1
      have n2 := nmOK_NB n1.1
      have e1 : sc (fun j => f j == 46) i k = i + k := sc_un _ (by omega) (by omega) (fun j x y => NB_dot (n2.2.2.2 j x y)) (fun x => by omega)
      rw [e1, Nat.add_sub_cancel_left, n1.1]
      simp
    · rw [if_neg hn] at h
      have g1 : ¬ nmAt f i (i + k) = 0 := fun h9 => hn (Or.inl h9)
      have g2 : ¬ i + k ≤ i + nmAt f i (i + k) := fun h9 => hn (Or.inr (Or.inl h9))
      have g3 : f (i + nmAt f i (i + k)) = 46 := Decidable.byContradiction fun h9 => hn (Or.inr (Or.inr h9))
      have n1 := nmAt_ok f (i := i) (e := i + k) g1
      have n2 := nmOK_NB n1.1
      generalize nmAt f i (i + k) = n at h g1 g2 g3 n1 n2
      by_cases hm : nmAt f (i + n + 1) (i + k) = 0
      · rw [if_pos hm] at h
        omega
      · rw [if_neg hm] at h
        have n3 := nmAt_ok f hm
        generalize nmAt f (i + n + 1) (i + k) = m at h hm n3
        have e1 : sc (fun j => f j == 46) i k = i + n := sc_un _ (by omega) (by omega) (fun j x y => NB_dot (n2.2.2.2 j x y)) (fun x => by simp [g3])
        rw [e1, Nat.add_sub_cancel_left, n1.1, show i + k - (i + n + 1) = m by omega, n3.1]
        simp
end PMLOOK
