section PCCM
variable {C C' : xC} {σ : St} {g : Gh}
/-- not in the draft -/
theorem CR.od (R : CR C σ g) {a : Nat} (h : g.2.2.2.2.2.2 a ≠ 350) : a < g.2.2.2.1 ∨ g.2.2.2.1 + 150 ≤ a := by
  refine Classical.byContradiction fun h9 => h ?_
  have := R.2.2.2.2.2.2.2.2.2.2.2.1 (a - g.2.2.2.1) (by omega)
  rw [show g.2.2.2.1 + (a - g.2.2.2.1) = a by omega] at this
  exact this
theorem CR.d17 (R : CR C σ g) : 17 < g.2.2.2.1 ∧ g.2.2.2.1 + 150 ≤ C.1 := by
  have rg := R.2.2.2.2.2.2.2.2
  constructor
  · refine Nat.not_le.mp fun h9 => ?_
    have h1 := rg.2.2.2.1 0 (by decide)
    rw [Nat.add_zero, rg.2.2.2.2.2 _ (by omega)] at h1
    omega
  · have h1 := R.lt (a := g.2.2.2.1 + 149) (by rw [rg.2.2.2.1 149 (by decide)]; omega)
    omega
/-- the cells that reading a comment leaves -/
abbrev cmP (d : Nat) : Nat → Prop := fun a => a ≠ 1 ∧ a ≠ 5 ∧ a ≠ 6 ∧ a ≠ 7 ∧ (a < d ∨ d + 150 ≤ a)
theorem CR.cp (R : CR C σ g) {a : Nat} (h : g.2.2.2.2.2.2 a ≠ 350) (h2 : g.2.2.2.2.2.2 a < 1000) : cmP g.2.2.2.1 a := by
  have rg := R.2.2.2.2.2.2.2.2
  exact ⟨rg.ne (Or.inl (by decide)) h2, rg.ne (Or.inl (by decide)) h2, rg.ne (Or.inl (by decide)) h2, rg.ne (Or.inl (by decide)) h2, R.od h⟩
theorem CR.cs (R : CR C σ g) {a : Nat} (h : a < 18 ∨ (168 ≤ a ∧ a < 224)) (h2 : a ≠ 1 ∧ a ≠ 5 ∧ a ≠ 6 ∧ a ≠ 7) : cmP g.2.2.2.1 a := by
  have rg := R.2.2.2.2.2.2.2.2
  exact ⟨h2.1, h2.2.1, h2.2.2.1, h2.2.2.2, R.od (by rw [rg.2.2.2.2.2 a h]; omega)⟩
/-- entries, parameters, comments lie there -/
theorem CR.c3 (R : CR C σ g) (w : wSt σ) : (∀ f, f < σ.2.1.length → ∀ i, i < 4 → cmP g.2.2.2.1 (g.1 f + i)) ∧ (∀ f, f < σ.2.1.length → ∀ k, k < (ePs (gE σ.2.1 f)).length → ∀ i, i < 2 → cmP g.2.2.2.1 (g.2.1 f k + i)) ∧ (∀ f, f < σ.2.1.length → cR C (g.1 f) 7 ≠ none → ∀ i, i < 150 → cmP g.2.2.2.1 (g.2.2.1 f + i)) := by
  have rg := R.2.2.2.2.2.2.2.2
  have w1 := w.2.1.1
  refine ⟨fun f hf i hi => ?_, fun f hf k hk i hi => ?_, fun f hf hc i hi => ?_⟩
  · have := rg.1 f hf i hi
    exact R.cp (by rw [this]; omega) (by rw [this]; omega)
  · have := rg.2.1 f hf k hk i hi
    have h4 := (w.2.1.2 f hf).2.2.2.2.2.2.1
    exact R.cp (by rw [this]; omega) (by rw [this]; omega)
  · have := rg.2.2.1 f hf hc i hi
    exact R.cp (by rw [this]; omega) (by rw [this]; omega)
/-- the text goes to the draft, the tape goes, the draft is read -/
theorem c_com1 (R : CR C σ g) (w : wSt σ) {e : Nat} (he : e < σ.2.1.length) : ∃ C1 C2 C3, g4 g.2.2.2.1 (some 1) (some (g.1 e)) C = some C1 ∧ cR C1 0 0 = some 1 ∧ g101 1 0 C1 = some C2 ∧ cR C2 0 2 = some 5 ∧ cR C2 0 5 = some g.2.2.2.1 ∧ g61 5 (some g.2.2.2.1) C2 = some C3 ∧ eqO (cmP g.2.2.2.1) C C3 ∧ sm C C3 ∧ nS C3 ∧ TX C3 1 2 600 [] ∧ cSh C3 g.2.2.2.1 ∧ TX C3 (g.2.2.2.1 + 1) (g.2.2.2.1 + 2) 600 σ.1 ∧ cR C3 g.2.2.2.1 5 = some (g.1 e) ∧ match rdC σ.1 (!isTy σ.2.1 e) with
    | (r2, none) => fS C3 none ∧ cRd C3 g.2.2.2.1 r2
    | (_, some q) => fS C3 (some q) := by
  obtain ⟨d1, d2⟩ := R.d17
  have c3 := R.c3 w
  have w1 := w.2.1.1
  have e0 := c3.1 e he 0 (by decide)
  rw [Nat.add_zero] at e0
  have s0 := R.cs (a := 0) (by decide) (by decide)
  have s2 := R.cs (a := 2) (by decide) (by decide)
  have o0 := R.2.2.1.2.2 e he
  have o1 := o0.2.2.1.1
  obtain ⟨A, T, H, F, P, Nn, ⟨⟨x1, nm, x2⟩, _⟩, ⟨L1, bs, L2⟩, rg⟩ := R
  generalize g.2.2.2.1 = d at d1 d2 e0 s0 s2 A L1 L2 ⊢
  -- the text
  obtain ⟨D, a1, a2, a3, a4⟩ := g102_s L2 T (by omega) ⟨by omega, by omega, by omega, by omega⟩ w.1.1 (by decide)
  have E1 : eqO (fun a => a ≠ d ∧ a ≠ d + 1 ∧ a ≠ d + 2) C (uI (uI (uR D d 5 (some (g.1 e))) d 3 0) d 4 0) := (((a3.mono fun a ha => ha.2).tr (eqO.uR (fun h9 => h9.1 rfl))).tr (eqO.uI (fun h9 => h9.1 rfl))).tr (eqO.uI (fun h9 => h9.1 rfl))
  have E0 : eqO (fun a => a ≠ d) D (uI (uI (uR D d 5 (some (g.1 e))) d 3 0) d 4 0) := ((eqO.uR (fun h9 => h9 rfl)).tr (eqO.uI (fun h9 => h9 rfl))).tr (eqO.uI (fun h9 => h9 rfl))
  have y5 : cR (uI (uI (uR D d 5 (some (g.1 e))) d 3 0) d 4 0) d 5 = some (g.1 e) := by rw [uI_r, uI_r, uR_e]
  have y6 : ∀ k, k ≠ 5 → cR (uI (uI (uR D d 5 (some (g.1 e))) d 3 0) d 4 0) d k = cR C d k := fun k hk => by rw [uI_r, uI_r, uR_n (by omega), (a3 d ⟨by omega, by omega⟩).2.1]
  have y3 : cI (uI (uI (uR D d 5 (some (g.1 e))) d 3 0) d 4 0) d 3 = 0 := by rw [uI_n (by omega), uI_e]
  have y4 : cI (uI (uI (uR D d 5 (some (g.1 e))) d 3 0) d 4 0) d 4 = 0 := by rw [uI_e]
  have g4e : g4 d (some 1) (some (g.1 e)) C = some (uI (uI (uR D d 5 (some (g.1 e))) d 3 0) d 4 0) := by
    unfold g4
    rw [L1.1]
    simp only [bS]
    rw [a1]
    simp only [bS]
  have S1 : sm C (uI (uI (uR D d 5 (some (g.1 e))) d 3 0) d 4 0) := a4.tr ⟨rfl, rfl⟩
  have T1 := a2.kp E0 (by omega) (by omega)
  generalize uI (uI (uR D d 5 (some (g.1 e))) d 3 0) d 4 0 = D1 at E1 y5 y6 y3 y4 g4e S1 T1
  -- the tape
  obtain ⟨D2, b1, b2, b3, b4⟩ := g101_0 (T.kp E1 ⟨by omega, by omega, by omega⟩ ⟨by omega, by omega, by omega⟩) (by decide)
  have E2 : eqO (fun a => a ≠ 1 ∧ a ≠ d ∧ a ≠ d + 1 ∧ a ≠ d + 2) C D2 := (E1.mono fun a ha => ha.2).tr (b3.mono fun a ha => ha.1)
  have T2 := T1.kp b3 (by omega) (by omega)
  obtain ⟨l1, l2, _, ⟨l4, l5, l6⟩, l7, l8, l9⟩ := L1
  have z6 : ∀ k, k ≠ 5 → cR D2 d k = cR C d k := fun k hk => by rw [(b3 d (by omega)).2.1, y6 k hk]
  have x29 := E2 (d + 29) ⟨by omega, by omega, by omega, by omega⟩
  have x3 := E2 (d + 3) ⟨by omega, by omega, by omega, by omega⟩
  have Sh2 : cSh D2 d := ⟨by rw [z6 0 (by decide)]; exact l1, T2.1, ⟨_, T2⟩, ⟨by rw [z6 1 (by decide)]; exact l4, by rw [x3.2.2]; exact l5, fun i hi => by rw [x3.2.1]; exact l6 i hi⟩, by rw [z6 2 (by decide)]; exact l7, by rw [x29.2.2]; exact l8, fun i hi => by rw [x29.2.1]; exact l9 i hi⟩
  have N2 : nS D2 := ⟨by rw [(E2 5 ⟨by omega, by omega, by omega, by omega⟩).2.1]; exact x1, nm, x2.kp E2 ⟨by omega, by omega, by omega, by omega⟩ ⟨by omega, by omega, by omega, by omega⟩⟩
  have O2 : oS D2 d (g.1 e) (!isTy σ.2.1 e) := by
    refine ⟨by rw [(b3 d (by omega)).2.1]; exact y5, ⟨e0.2.1, e0.2.2.1, e0.2.2.2.1, e0.2.2.2.2⟩, ?_⟩
    rw [(E2 (g.1 e) ⟨e0.1, by omega, by omega, by omega⟩).2.1, o1]
    unfold isTy
    cases eOw (gE σ.2.1 e) <;> rfl
  have R2 : cRd D2 d ([], []) := ⟨⟨by rw [(b3 d (by omega)).1, y3]; rfl, fun k hk => absurd hk (Nat.not_lt_zero _)⟩, by rw [(b3 d (by omega)).1, y4]; rfl, fun k hk => absurd hk (Nat.not_lt_zero _)⟩
  -- reading
  obtain ⟨D3, c1, c2, c4, c5, c6, c7⟩ := g61_s Sh2 T2 d1 R2 N2 O2
  have T3 := T2.kp c2 ⟨by omega, by omega, by omega, by omega⟩ ⟨by omega, by omega, by omega, by omega⟩
  have v29 := c2 (d + 29) ⟨by omega, by omega, by omega, by omega⟩
  have v3 := c2 (d + 3) ⟨by omega, by omega, by omega, by omega⟩
  obtain ⟨m1, m2, _, ⟨m4, m5, m6⟩, m7, m8, m9⟩ := Sh2
  refine ⟨D1, D2, D3, g4e, by rw [(E1 0 ⟨by omega, by omega, by omega⟩).2.1]; exact A.1, b1, by rw [(E2 0 ⟨by omega, by omega, by omega, by omega⟩).2.1]; exact A.2.2.1, by rw [(E2 0 ⟨by omega, by omega, by omega, by omega⟩).2.1]; exact A.2.2.2.2.2.1, c1, ?_, (S1.tr b4).tr c5, c6, b2.kp c2 ⟨by omega, by omega, by omega, by omega⟩ ⟨by omega, by omega, by omega, by omega⟩, ⟨by rw [c4]; exact m1, T3.1, ⟨_, T3⟩, ⟨by rw [c4]; exact m4, by rw [v3.2.2]; exact m5, fun i hi => by rw [v3.2.1]; exact m6 i hi⟩, by rw [c4]; exact m7, by rw [v29.2.2]; exact m8, fun i hi => by rw [v29.2.1]; exact m9 i hi⟩, T3, by rw [c4]; exact O2.1, c7⟩
  exact (E2.mono fun a ha => ⟨ha.1, by omega, by omega, by omega⟩).tr (c2.mono fun a ha => ⟨ha.2.1, ha.2.2.1, ha.2.2.2.1, by omega⟩)
end PCCM
