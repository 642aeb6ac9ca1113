section PCNEW
variable {C C' : xC} {σ : St} {g : Gh}
theorem cAdd_I {ci n a k : Nat} : cI (cAdd C ci n) a k = if a = C.1 then 0 else cI C a k := rfl
theorem cAdd_R {ci n a k : Nat} : cR (cAdd C ci n) a k = if a = C.1 then none else cR C a k := rfl
theorem cAdd_K {ci n a : Nat} : cK (cAdd C ci n) a = if a = C.1 then (ci, n) else cK C a := rfl
theorem cAdd_1 {ci n : Nat} : (cAdd C ci n).1 = C.1 + 1 := rfl
theorem cAdd_2 {ci n : Nat} : (cAdd C ci n).2.1 = C.2.1 + n := rfl
theorem uI_1 {a k : Nat} {v : Int32} : (uI C a k v).1 = C.1 := rfl
theorem uI_2 {a k : Nat} {v : Int32} : (uI C a k v).2.1 = C.2.1 := rfl
theorem uR_1 {a k : Nat} {v : Option Nat} : (uR C a k v).1 = C.1 := rfl
theorem uR_2 {a k : Nat} {v : Option Nat} : (uR C a k v).2.1 = C.2.1 := rfl
theorem cNA_n {tg n : Nat} (h : n * 8 ≤ 536870912) : cNA C tg (nI n) = some (cAdd C tg n) := by
  unfold cNA
  rw [if_pos ⟨nI_pos (by omega), by rw [nI_clamp (by omega)]; exact h⟩, nI_clamp (by omega)]
theorem xmax_n {n : Nat} (h : n < 2 ^ 31) : xmax 0 (nI n) = nI n := by
  unfold xmax
  by_cases h1 : (0 : Int32) < nI n
  · rw [if_pos h1]
  · rw [if_neg h1]
    have h2 : n = 0 := by
      rcases Nat.eq_zero_or_pos n with h9 | h9
      · exact h9
      · exact absurd (nI_lt (a := 0) h9 h) h1
    subst h2
    rfl
theorem g95_s {t n : Nat} (h : n * 8 ≤ 536870912) : g95 t (nI n) C = some (uR (cAdd C 12 n) t 0 (some C.1)) := by
  unfold g95
  rw [xmax_n (by omega), cNA_n h]
  rfl
/-- a new entry's cells -/
def nEn (C : xC) (e : Nat) (o p : Option Nat) (r : Bool) : xC :=
  let A := C.1
  let C1 := uI (uR (uR (uI (cNew C 2) A 0 (nI e)) A 2 o) A 3 p) A 4 (bZ r)
  let C2 := uR (uR (cAdd (cNew C1 9) 12 10) (A + 1) 0 (some (A + 2))) A 1 (some (A + 1))
  uR (cAdd C2 18 4) A 5 (some (A + 3))
theorem g11_s (e : Nat) (o p : Option Nat) (r : Bool) : g11 C.1 (nI e) o p (bZ r) (cNew C 2) = some (nEn C e o p r) := by
  unfold g11
  simp only [Option.bind_some]
  rw [if_pos bZ_p, lt_10, g95_s (by decide)]
  simp only [Option.bind_some]
  rw [lt_4, cNA_n (by decide)]
  rfl
theorem nEn_f (e : Nat) (o p : Option Nat) (r : Bool) : (nEn C e o p r).1 = C.1 + 4 ∧ (nEn C e o p r).2.1 = C.2.1 + 25 ∧ eqO (fun a => a < C.1) C (nEn C e o p r) ∧ cI (nEn C e o p r) C.1 0 = nI e ∧ cR (nEn C e o p r) C.1 1 = some (C.1 + 1) ∧ cR (nEn C e o p r) C.1 2 = o ∧ cR (nEn C e o p r) C.1 3 = p ∧ cI (nEn C e o p r) C.1 4 = bZ r ∧ cR (nEn C e o p r) C.1 5 = some (C.1 + 3) ∧ cI (nEn C e o p r) C.1 6 = 0 ∧ cR (nEn C e o p r) C.1 7 = none ∧ cI (nEn C e o p r) C.1 8 = 0 ∧ (cK (nEn C e o p r) (C.1 + 3)).2 = 4 ∧ TX (nEn C e o p r) (C.1 + 1) (C.1 + 2) 10 [] := by
  unfold nEn
  dsimp only
  refine ⟨rfl, rfl, fun a ha => ?_, ?_, ?_, ?_, ?_, ?_, ?_, ?_, ?_, ?_, ?_, ?_, ?_, ?_, by decide, Nat.zero_le _, fun i hi => absurd hi (Nat.not_lt_zero _)⟩
  · have e0 : a ≠ C.1 := by omega
    have e1 : a ≠ C.1 + 1 := by omega
    have e2 : a ≠ C.1 + 1 + 1 := by omega
    have e3 : a ≠ C.1 + 1 + 1 + 1 := by omega
    refine ⟨fun k => ?_, fun k => ?_, ?_⟩ <;> simp [uI_I, uI_R, uI_K, uR_I, uR_R, uR_K, cNew, cAdd_I, cAdd_R, cAdd_K, cAdd_1, uI_1, uR_1, e0, e1, e2, e3]
  all_goals simp [uI_I, uI_R, uI_K, uR_I, uR_R, uR_K, cNew, cAdd_I, cAdd_R, cAdd_K, cAdd_1, uI_1, uR_1, nI_0, show ¬ C.1 = C.1 + 1 + 1 by omega, show ¬ C.1 = C.1 + 1 + 1 + 1 by omega]
/-- a new entry in the register -/
theorem g82_s (R : CR C σ g) (w : wSt σ) (hn : σ.2.1.length < 40) (hb : σ.1.length ≤ 10) (o p : Option Nat) (r : Bool) (a0 : Nat) : ∃ C', g82 3 o p (bZ r) (some 1) C = some (nI σ.2.1.length, C') ∧ C'.1 = C.1 + 4 ∧ C'.2.1 = C.2.1 + 25 ∧ eqO (fun a => a < C.1 ∧ a ≠ 3 ∧ a ≠ 4) C C' ∧ (cR C' 3 0 = some 4 ∧ (cK C' 4).2 = 40 ∧ cI C' 3 1 = nI (σ.2.1.length + 1)) ∧ (∀ i, cR C' 4 i = if i = σ.2.1.length then some C.1 else cR C 4 i) ∧ (cI C' C.1 0 = nI σ.2.1.length ∧ cR C' C.1 1 = some (C.1 + 1) ∧ TX C' (C.1 + 1) (C.1 + 2) 10 σ.1) ∧ (cR C' C.1 2 = o ∧ cR C' C.1 3 = p ∧ cI C' C.1 4 = bZ r) ∧ (cR C' C.1 5 = some (C.1 + 3) ∧ (cK C' (C.1 + 3)).2 = 4 ∧ cI C' C.1 6 = 0) ∧ cI C' C.1 8 = 0 ∧ cR C' C.1 7 = none := by
  obtain ⟨_, T, H, _, _, _, _, _, rg⟩ := R
  have top : 224 ≤ C.1 := by
    refine Nat.not_lt.mp fun h9 => ?_
    have h1 := rg.2.2.2.2.1 C.1 (Nat.le_refl _)
    by_cases h2 : C.1 < 18 ∨ 168 ≤ C.1
    · rw [rg.2.2.2.2.2 C.1 (by omega)] at h1
      omega
    · have h3 := rg.2.2.2.2.1 170 (by omega)
      rw [rg.2.2.2.2.2 170 (by decide)] at h3
      omega
  obtain ⟨f1, f2, fE, f3, f4, f5, f6, f7, f8, f9, f10, f11, f12, fT⟩ := nEn_f (C := C) σ.2.1.length o p r
  have T1 := T.kp fE (show 1 < C.1 by omega) (show 2 < C.1 by omega)
  obtain ⟨C2, e2, T2, E2, S2⟩ := g102_s fT T1 (by omega) ⟨by omega, by omega, by omega, by omega⟩ hb (by decide)
  have z : ∀ a, a ≠ C.1 + 1 → a ≠ C.1 + 2 → (∀ k, cI C2 a k = cI (nEn C σ.2.1.length o p r) a k) ∧ (∀ k, cR C2 a k = cR (nEn C σ.2.1.length o p r) a k) ∧ cK C2 a = cK (nEn C σ.2.1.length o p r) a := fun a h1 h2 => E2 a ⟨h1, h2⟩
  have z3 := z 3 (by omega) (by omega)
  have y3 := fE 3 (show 3 < C.1 by omega)
  have z4 := z 4 (by omega) (by omega)
  have y4 := fE 4 (show 4 < C.1 by omega)
  have q3 : cI C2 3 1 = nI σ.2.1.length := by rw [z3.1, y3.1]; exact H.1.2.2
  have q30 : cR C2 3 0 = some 4 := by rw [z3.2.1, y3.2.1]; exact H.1.1
  have q4 : (cK C2 4).2 = 40 := by rw [z4.2.2, y4.2.2]; exact H.1.2.1
  have e3 : cI (cNew C 2) 3 1 = nI σ.2.1.length := by
    rw [show cNew C 2 = cAdd C 2 (cN 2) from rfl, cAdd_I, if_neg (by omega)]
    exact H.1.2.2
  refine ⟨uI (uR C2 4 σ.2.1.length (some C.1)) 3 1 (nI (σ.2.1.length + 1)), ?_, ?_, ?_, ?_, ⟨q30, q4, ?_⟩, ?_, ⟨?_, ?_, ?_⟩, ⟨?_, ?_, ?_⟩, ⟨?_, ?_, ?_⟩, ?_, ?_⟩
  · unfold g82
    rw [H.1.1]
    simp only [Option.bind_some]
    rw [H.1.2.2, H.1.2.1, show Int32.ofNat 40 = nI 40 from rfl, if_pos (nI_lt (b := 40) hn (by decide)), e3, g11_s]
    simp only [Option.bind_some]
    rw [f4]
    simp only [Option.bind_some]
    rw [e2]
    simp only [Option.bind_some]
    rw [q30]
    simp only [Option.bind_some]
    rw [q3, cSR_n (n := 40) hn q4 (by decide)]
    simp only [Option.bind_some, uR_I, q3, nI_1, uI_I]
    rw [if_neg (by omega), (z C.1 (by omega) (by omega)).1, f3]
  · rw [uI_1, uR_1, S2.1, f1]
  · rw [uI_2, uR_2, S2.2, f2]
  · refine (((fE.mono fun a ha => ha.1).tr (E2.mono fun a ha => ?_)).tr (eqO.uR (by simp))).tr (eqO.uI (by simp))
    omega
  · simp [uI_I]
  · intro i
    rw [uI_R, uR_R]
    by_cases hi : i = σ.2.1.length
    · rw [if_pos ⟨rfl, hi⟩, if_pos hi]
    · rw [if_neg fun h9 => hi h9.2, if_neg hi, z4.2.1, y4.2.1]
  · rw [uI_I, if_neg (by omega), uR_I, (z C.1 (by omega) (by omega)).1, f3]
  · rw [uI_R, uR_R, if_neg (by omega), (z C.1 (by omega) (by omega)).2.1, f4]
  · exact T2.kp (P := fun a => a ≠ 3 ∧ a ≠ 4) ((eqO.uR (by simp)).tr (eqO.uI (by simp))) (by omega) (by omega)
  · rw [uI_R, uR_R, if_neg (by omega), (z C.1 (by omega) (by omega)).2.1, f5]
  · rw [uI_R, uR_R, if_neg (by omega), (z C.1 (by omega) (by omega)).2.1, f6]
  · rw [uI_I, if_neg (by omega), uR_I, (z C.1 (by omega) (by omega)).1, f7]
  · rw [uI_R, uR_R, if_neg (by omega), (z C.1 (by omega) (by omega)).2.1, f8]
  · rw [uI_K, uR_K, (z (C.1 + 3) (by omega) (by omega)).2.2, f12]
  · rw [uI_I, if_neg (by omega), uR_I, (z C.1 (by omega) (by omega)).1, f9]
  · rw [uI_I, if_neg (by omega), uR_I, (z C.1 (by omega) (by omega)).1, f11]
  · rw [uI_R, uR_R, if_neg (by omega), (z C.1 (by omega) (by omega)).2.1, f10]
end PCNEW
