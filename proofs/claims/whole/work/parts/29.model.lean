section XMODEL
abbrev xS : Type := (Nat → Int32) × (Nat → List Value)
def mOff : List Nat := [1, 0, 0, 2, 3, 4, 5, 6, 7, 8, 9, 10, 11, 12, 13, 14, 15, 16, 17, 18, 19, 20, 21, 22, 23, 24, 25, 26, 27, 28, 29, 0, 0, 0, 0, 0, 0, 0, 0, 0, 0, 0, 0, 0, 30, 0, 31, 0, 0, 0, 32, 0, 33, 0, 34, 0, 0, 0, 35, 0, 36, 0, 37, 0, 38, 39, 40, 41, 0, 42, 43, 44, 45, 0]
def mTg : List Nat := [13, 0, 0, 14, 13, 13, 14, 13, 13, 13, 13, 13, 13, 13, 13, 13, 13, 13, 13, 13, 13, 13, 13, 14, 13, 13, 13, 13, 14, 13, 13, 0, 0, 0, 0, 0, 0, 0, 0, 0, 0, 0, 0, 0, 13, 0, 13, 0, 0, 0, 13, 0, 13, 0, 13, 0, 0, 0, 13, 0, 13, 0, 13, 0, 13, 13, 13, 13, 0, 13, 13, 13, 13, 0]
def mO (k : Nat) : Nat := mOff.getD k 0
def mT (k : Nat) : Nat := mTg.getD k 0
theorem mO_inj : ∀ a, a < 74 → ∀ b, b < 74 → mO a ≠ 0 → mO a = mO b → a = b := by decide +kernel
theorem mO_le : ∀ a, a < 74 → mO a ≤ 45 := by decide +kernel
theorem mT_in : ∀ a, a < 74 → mO a ≠ 0 → 13 ≤ mT a ∧ mT a < 15 := by decide +kernel
def mV (m : Nat) (S : xS) (k : Nat) : Value := if mO k = 0 then .int (S.1 k) else .ref (m + mO k)
def mC (m : Nat) (S : xS) : Nat × List Value := (11, (List.range 74).map (mV m S))
/-- the reference's object at m, its arrays behind it -/
def RM (h : xH) (m : Nat) (S : xS) : Prop := m + 45 < h.1 ∧ h.2.2 m = mC m S ∧ ∀ k, k < 74 → mO k ≠ 0 → h.2.2 (m + mO k) = (mT k, S.2 k) ∧ (S.2 k).length < 2 ^ 31
/-- nothing else has changed -/
def FM (m : Nat) (h h' : xH) : Prop := h'.1 = h.1 ∧ h'.2.1 = h.2.1 ∧ ∀ a, a < m ∨ m + 45 < a → h'.2.2 a = h.2.2 a
theorem FM.rfl' {m : Nat} {h : xH} : FM m h h := ⟨rfl, rfl, fun _ _ => rfl⟩
theorem FM.tr {m : Nat} {h h1 h2 : xH} (a : FM m h h1) (b : FM m h1 h2) : FM m h h2 := ⟨b.1.trans a.1, b.2.1.trans a.2.1, fun x hx => (b.2.2 x hx).trans (a.2.2 x hx)⟩
def sI (S : xS) (k : Nat) (v : Int32) : xS := (fun j => if j = k then v else S.1 j, S.2)
def sA (S : xS) (k i : Nat) (v : Int32) : xS := (S.1, fun j => if j = k then (S.2 k).set i (.int v) else S.2 j)
theorem sI_1 (S : xS) (k : Nat) (v : Int32) : (sI S k v).1 k = v := by simp [sI]
theorem sI_n (S : xS) {k j : Nat} (v : Int32) (h : j ≠ k) : (sI S k v).1 j = S.1 j := by simp [sI, h]
theorem sI_a (S : xS) (k : Nat) (v : Int32) : (sI S k v).2 = S.2 := rfl
theorem sA_i (S : xS) (k i : Nat) (v : Int32) : (sA S k i v).1 = S.1 := rfl
theorem sA_1 (S : xS) (k i : Nat) (v : Int32) : (sA S k i v).2 k = (S.2 k).set i (.int v) := by simp [sA]
theorem sA_n (S : xS) {k j : Nat} (i : Nat) (v : Int32) (h : j ≠ k) : (sA S k i v).2 j = S.2 j := by simp [sA, h]
variable {h : xH} {m : Nat} {S : xS}
theorem mC_at {k : Nat} (hk : k < 74) : (mC m S).2[k]? = some (mV m S k) := by simp [mC, hk]
theorem RM.cv (H : RM h m S) : xcv h (some m) 11 = some () := xcv_of (H.2.1) (by have := H.1; omega) (by omega)
theorem RM.gI (H : RM h m S) (k : Nat) (hk : k < 74 := by decide) (h0 : mO k = 0 := by decide) : xgI h (some m) 11 k = some (S.1 k) := by
  refine xgI_of (H.2.1) (by have := H.1; omega) (by omega) ?_
  have := mC_at (m := m) (S := S) hk
  unfold mV at this
  rw [if_pos h0] at this
  exact this
theorem RM.gR (H : RM h m S) (k : Nat) (hk : k < 74 := by decide) (h0 : mO k ≠ 0 := by decide) : xgR h (some m) 11 k = some (some (m + mO k)) := by
  refine xgR_of (H.2.1) (by have := H.1; omega) (by omega) ?_
  have := mC_at (m := m) (S := S) hk
  unfold mV at this
  rw [if_neg h0] at this
  exact this
theorem RM.aI (H : RM h m S) (k i : Nat) {x : Int32} (hv : (S.2 k)[i]? = some (.int x)) (hk : k < 74 := by decide) (h0 : mO k ≠ 0 := by decide) : xaI h (mT k) (some (m + mO k)) (nI i) = some x :=
  xaI_of (H.2.2 k hk h0).1 (by have := H.1; have := mO_le k hk; omega) (H.2.2 k hk h0).2 hv
theorem RM.pF (H : RM h m S) (k : Nat) (v : Int32) {ty : FieldType} (hf : xfit ty (.int v) = true) (hk : k < 74 := by decide) (h0 : mO k = 0 := by decide) : ∃ h', xpF h (some m) 11 k ty (.int v) = some h' ∧ RM h' m (sI S k v) ∧ FM m h h' := by
  have h1 := H.1
  refine ⟨_, xpF_of H.2.1 (by omega) (by omega) (by simp; exact hk) hf, ⟨H.1, ?_, fun j hj hj0 => ?_⟩, rfl, rfl, fun a ha => xset_ne (by omega)⟩
  · rw [xset_at]
    unfold mC
    congr 1
    apply List.ext_getElem?
    intro j
    rw [List.getElem?_set]
    by_cases hjk : k = j
    · subst hjk
      simp [hk, mV, h0, sI]
    · rw [if_neg hjk]
      by_cases hj : j < 74
      · simp [hj, mV, sI, Ne.symm hjk]
      · simp [hj]
  · have h2 := H.2.2 j hj hj0
    rw [xset_ne (by omega)]
    exact h2
theorem RM.aS (H : RM h m S) (k i : Nat) (f : Int32 → Int32) (x : Int32) (hi : i < (S.2 k).length) (hk : k < 74 := by decide) (h0 : mO k ≠ 0 := by decide) : ∃ h', xaS h (mT k) f (some (m + mO k)) (nI i) x = some h' ∧ RM h' m (sA S k i (f x)) ∧ FM m h h' := by
  have h1 := H.1
  have hle := mO_le k hk
  obtain ⟨g1, g2⟩ := H.2.2 k hk h0
  refine ⟨_, xaS_of g1 (by omega) g2 hi, ⟨H.1, ?_, fun j hj hj0 => ?_⟩, rfl, rfl, fun a ha => xset_ne (by omega)⟩
  · rw [xset_ne (by omega)]
    exact H.2.1
  · by_cases hjk : j = k
    · subst hjk
      rw [xset_at, sA_1]
      exact ⟨rfl, by simpa using g2⟩
    · rw [xset_ne (fun h9 => hjk (mO_inj j hj k hk hj0 (by omega))), sA_n _ _ _ hjk]
      exact H.2.2 j hj hj0
end XMODEL
