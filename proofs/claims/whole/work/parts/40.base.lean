section PBASE
theorem pFuel (n : Nat) (h : n < 1000000) : n < xFuel := h
theorem lit_n (n : Nat) : (OfNat.ofNat n : Int32) = nI n := rfl
/-- a byte; beyond the end 999 -/
def bI (c : Nat) : Int32 := if c < 256 then nI c else -1
theorem bI_lt {c : Nat} (h : c < 256) : bI c = nI c := if_pos h
theorem bI_eq {c d : Nat} (hd : d < 256) : bI c = nI d ↔ c = d := by
  unfold bI
  by_cases h : c < 256
  · rw [if_pos h]
    exact nI_eq (by omega) (by omega)
  · rw [if_neg h]
    refine ⟨fun h9 => ?_, fun h9 => by omega⟩
    have h8 := congrArg Int32.toInt h9
    rw [nI_toInt (by omega)] at h8
    have h7 : (-1 : Int32).toInt = -1 := by decide
    omega
theorem bI_toInt {c : Nat} : (bI c).toInt = if c < 256 then (c : Int) else -1 := by
  unfold bI
  by_cases h : c < 256
  · rw [if_pos h, if_pos h, nI_toInt (by omega)]
  · rw [if_neg h, if_neg h]
    decide
theorem xout_nI {i n : Nat} (h : i < n) (hn : n < 2 ^ 31) : xout (nI i) n = false := decide_eq_false (nI_in h hn)
/-- the first place from i on, k of them, where p holds; the end -/
def sc (p : Nat → Bool) : Nat → Nat → Nat
  | i, 0 => i
  | i, k + 1 => if p i = true then i else sc p (i + 1) k
theorem sc_ge (p : Nat → Bool) : ∀ k i, i ≤ sc p i k ∧ sc p i k ≤ i + k := by
  intro k
  induction k with
  | zero => intro i; exact ⟨Nat.le_refl _, Nat.le_refl _⟩
  | succ k ih =>
    intro i
    unfold sc
    have := ih (i + 1)
    split <;> omega
theorem sc_no (p : Nat → Bool) : ∀ k i j, i ≤ j → j < sc p i k → p j = false := by
  intro k
  induction k with
  | zero => intro i j h1 h2; unfold sc at h2; omega
  | succ k ih =>
    intro i j h1 h2
    unfold sc at h2
    by_cases hp : p i = true
    · rw [if_pos hp] at h2
      omega
    · rw [if_neg hp] at h2
      by_cases hij : i = j
      · subst hij
        exact Bool.eq_false_iff.mpr hp
      · exact ih (i + 1) j (by omega) h2
theorem sc_at (p : Nat → Bool) : ∀ k i, sc p i k < i + k → p (sc p i k) = true := by
  intro k
  induction k with
  | zero => intro i h; unfold sc at h; omega
  | succ k ih =>
    intro i h
    unfold sc at h ⊢
    by_cases hp : p i = true
    · rw [if_pos hp]
      exact hp
    · rw [if_neg hp] at h ⊢
      exact ih (i + 1) (by omega)
theorem sc_un (p : Nat → Bool) {i k r : Nat} (h1 : i ≤ r) (h2 : r ≤ i + k) (h3 : ∀ j, i ≤ j → j < r → p j = false) (h4 : r < i + k → p r = true) : sc p i k = r := by
  have a := sc_ge p k i
  rcases Nat.lt_trichotomy (sc p i k) r with h | h | h
  · have := sc_at p k i (by omega)
    rw [h3 _ a.1 h] at this
    cases this
  · exact h
  · have := sc_no p k i r h1 h
    rw [h4 (by omega)] at this
    cases this
theorem l_sc {α : Type} (L : Nat → Nat → Option α) (p : Nat → Bool) (fin : Nat → Option α) (e : Nat) (h0 : ∀ n, L (n + 1) e = fin e) (h1 : ∀ n i, i < e → p i = true → L (n + 1) i = fin i) (h2 : ∀ n i, i < e → p i = false → L (n + 1) i = L n (i + 1)) : ∀ k n i, i + k = e → k < n → L n i = fin (sc p i k) := by
  intro k
  induction k with
  | zero =>
    intro n i hi hn
    obtain ⟨n, rfl⟩ : ∃ m, n = m + 1 := ⟨n - 1, by omega⟩
    have : i = e := by omega
    subst this
    exact h0 n
  | succ k ih =>
    intro n i hi hn
    obtain ⟨n, rfl⟩ : ∃ m, n = m + 1 := ⟨n - 1, by omega⟩
    unfold sc
    by_cases hp : p i = true
    · rw [if_pos hp]
      exact h1 n i (by omega) hp
    · rw [if_neg hp, h2 n i (by omega) (Bool.eq_false_iff.mpr hp)]
      exact ih n (i + 1) (by omega) (by omega)
/-- steps from i on, k of them -/
def fl {σ : Type} (st : Nat → σ → σ) : Nat → Nat → σ → σ
  | _, 0, s => s
  | i, k + 1, s => fl st (i + 1) k (st i s)
theorem l_fl {α σ : Type} (L : Nat → Nat → σ → Option α) (st : Nat → σ → σ) (fin : σ → Option α) (I : Nat → σ → Prop) (e : Nat) (h0 : ∀ n s, I e s → L (n + 1) e s = fin s) (h1 : ∀ n i s, i < e → I i s → L (n + 1) i s = L n (i + 1) (st i s) ∧ I (i + 1) (st i s)) : ∀ k n i s, i + k = e → k < n → I i s → L n i s = fin (fl st i k s) ∧ I e (fl st i k s) := by
  intro k
  induction k with
  | zero =>
    intro n i s hi hn hI
    obtain ⟨n, rfl⟩ : ∃ m, n = m + 1 := ⟨n - 1, by omega⟩
    have : i = e := by omega
    subst this
    exact ⟨h0 n s hI, hI⟩
  | succ k ih =>
    intro n i s hi hn hI
    obtain ⟨n, rfl⟩ : ∃ m, n = m + 1 := ⟨n - 1, by omega⟩
    obtain ⟨a, b⟩ := h1 n i s (by omega) hI
    rw [a]
    exact ih n (i + 1) (st i s) (by omega) (by omega) b
/-- a loop that only has to keep something -/
theorem l_in {α σ : Type} (L : Nat → Nat → σ → Option α) (Q : α → Prop) (I : Nat → σ → Prop) (e : Nat) (h0 : ∀ n s, I e s → ∃ r, L (n + 1) e s = some r ∧ Q r) (h1 : ∀ n i s, i < e → I i s → (∃ r, L (n + 1) i s = some r ∧ Q r) ∨ ∃ s', L (n + 1) i s = L n (i + 1) s' ∧ I (i + 1) s') : ∀ k n i s, i + k = e → k < n → I i s → ∃ r, L n i s = some r ∧ Q r := by
  intro k
  induction k with
  | zero =>
    intro n i s hi hn hI
    obtain ⟨n, rfl⟩ : ∃ m, n = m + 1 := ⟨n - 1, by omega⟩
    have : i = e := by omega
    subst this
    exact h0 n s hI
  | succ k ih =>
    intro n i s hi hn hI
    obtain ⟨n, rfl⟩ : ∃ m, n = m + 1 := ⟨n - 1, by omega⟩
    rcases h1 n i s (by omega) hI with h | ⟨s', a, b⟩
    · exact h
    · rw [a]
      exact ih n (i + 1) s' (by omega) (by omega) b
end PBASE
