section PCREL
/-- ghosts: entries, parameters, comments, the draft, the shown page, the spare one, regions -/
abbrev Gh : Type := (Nat → Nat) × (Nat → Nat → Nat) × (Nat → Nat) × Nat × Nat × Nat × (Nat → Nat)
def cPgS (C : xC) (p : Nat) : Prop := cR C p 0 = some (p + 1) ∧ cR C p 1 = some (p + 3) ∧ (cK C (p + 3)).2 = 4000 ∧ cR C p 2 = some (p + 4) ∧ (cK C (p + 4)).2 = 40 ∧ ∃ bs, TX C (p + 1) (p + 2) 4000 bs
def cPg (C : xC) (p : Nat) (ea : Nat → Nat) (g : Pg) : Prop := TX C (p + 1) (p + 2) 4000 g.1 ∧ (cI C p 3 = nI g.2.1.length ∧ ∀ i, i < g.2.1.length → cI C (p + 3) i = nI (g.2.1.getD i 0)) ∧ (cI C p 4 = nI g.2.2.1.length ∧ ∀ i, i < g.2.2.1.length → cR C (p + 4) i = some (ea (g.2.2.1.getD i 0))) ∧ cI C p 5 = nI g.2.2.2.1 ∧ cI C p 6 = nI g.2.2.2.2
def cNt (C : xC) (l : List (Nat × Nat)) : Prop := cR C 15 0 = some 16 ∧ cR C 15 1 = some 17 ∧ (cK C 16).2 = 216 ∧ (cK C 17).2 = 216 ∧ cI C 15 2 = nI l.length ∧ ∀ i, i < l.length → cI C 16 i = nI (l.getD i (0, 0)).1 ∧ cI C 17 i = nI (l.getD i (0, 0)).2
def cTop (C : xC) (d ps pt : Nat) : Prop := cR C 0 0 = some 1 ∧ cR C 0 1 = some 3 ∧ cR C 0 2 = some 5 ∧ cR C 0 3 = some 8 ∧ cR C 0 4 = some 15 ∧ cR C 0 5 = some d ∧ cR C 0 6 = some ps ∧ cR C 0 7 = some pt
def cAux (C : xC) : Prop := (cR C 5 0 = some 6 ∧ ∃ nm, TX C 6 7 10 nm) ∧ cR C 8 0 = some 9 ∧ (cK C 9).2 = 960 ∧ (cR C 8 2 = some 10 ∧ ∃ l, TX C 10 11 1200 l) ∧ cR C 8 3 = some 12 ∧ (cK C 12).2 = 122 ∧ cR C 8 5 = some 13 ∧ (cK C 13).2 = 122 ∧ cR C 8 6 = some 14 ∧ (cK C 14).2 = 122
/-- regions: an entry 1 + e, a parameter 100 + 4 e + k, a comment 300 + e, the draft 350, what is not there 9999, the rest by itself -/
def cRg (C : xC) (es : List En) (g : Gh) : Prop := (∀ e, e < es.length → ∀ i, i < 4 → g.2.2.2.2.2.2 (g.1 e + i) = 1 + e) ∧ (∀ e, e < es.length → ∀ k, k < (ePs (gE es e)).length → ∀ i, i < 2 → g.2.2.2.2.2.2 (g.2.1 e k + i) = 100 + 4 * e + k) ∧ (∀ e, e < es.length → cR C (g.1 e) 7 ≠ none → ∀ i, i < 150 → g.2.2.2.2.2.2 (g.2.2.1 e + i) = 300 + e) ∧ (∀ i, i < 150 → g.2.2.2.2.2.2 (g.2.2.2.1 + i) = 350) ∧ (∀ a, C.1 ≤ a → g.2.2.2.2.2.2 a = 9999) ∧ ∀ a, (a < 18 ∨ (168 ≤ a ∧ a < 224)) → g.2.2.2.2.2.2 a = 1000 + a
def CR (C : xC) (σ : St) (g : Gh) : Prop := cTop C g.2.2.2.1 g.2.2.2.2.1 g.2.2.2.2.2.1 ∧ TX C 1 2 600 σ.1 ∧ cE C g.1 g.2.1 g.2.2.1 σ.2.1 ∧ cI C 5 5 = nI σ.2.2.1 ∧ (cPg C g.2.2.2.2.1 g.1 σ.2.2.2.1 ∧ cPgS C g.2.2.2.2.1 ∧ cPgS C g.2.2.2.2.2.1 ∧ ((g.2.2.2.2.1 = 168 ∧ g.2.2.2.2.2.1 = 173) ∨ (g.2.2.2.2.1 = 173 ∧ g.2.2.2.2.2.1 = 168))) ∧ cNt C σ.2.2.2.2 ∧ cAux C ∧ (cSh C g.2.2.2.1 ∧ ∃ bs, TX C (g.2.2.2.1 + 1) (g.2.2.2.1 + 2) 600 bs) ∧ cRg C σ.2.1 g
/-- all is the same there -/
def eqO (P : Nat → Prop) (C C' : xC) : Prop := ∀ a, P a → (∀ k, cI C' a k = cI C a k) ∧ (∀ k, cR C' a k = cR C a k) ∧ cK C' a = cK C a
variable {C C' C1 C2 : xC} {P Q : Nat → Prop}
theorem eqO.rfl' : eqO P C C := fun _ _ => ⟨fun _ => rfl, fun _ => rfl, rfl⟩
theorem eqO.tr (x : eqO P C C1) (y : eqO P C1 C2) : eqO P C C2 := fun a h => ⟨fun k => ((y a h).1 k).trans ((x a h).1 k), fun k => ((y a h).2.1 k).trans ((x a h).2.1 k), ((y a h).2.2).trans (x a h).2.2⟩
theorem eqO.mono (x : eqO P C C1) (h : ∀ a, Q a → P a) : eqO Q C C1 := fun a ha => x a (h a ha)
theorem eqO.uI {a k : Nat} {v : Int32} (h : ¬ P a) : eqO P C (uI C a k v) := fun b hb => ⟨fun j => by show (if b = a ∧ j = k then v else _) = _; rw [if_neg (fun h9 : b = a ∧ j = k => h (h9.1 ▸ hb))]; rfl, fun _ => rfl, rfl⟩
theorem eqO.uR {a k : Nat} {v : Option Nat} (h : ¬ P a) : eqO P C (uR C a k v) := fun b hb => ⟨fun _ => rfl, fun j => by show (if b = a ∧ j = k then v else _) = _; rw [if_neg (fun h9 : b = a ∧ j = k => h (h9.1 ▸ hb))]; rfl, rfl⟩
theorem eqO.add {ci n : Nat} (h : ¬ P C.1) : eqO P C (cAdd C ci n) := fun b hb => by
  have hn : b ≠ C.1 := fun h9 => h (h9 ▸ hb)
  refine ⟨fun j => ?_, fun j => ?_, ?_⟩
  · show (if b = C.1 then 0 else _) = _
    rw [if_neg hn]; rfl
  · show (if b = C.1 then none else _) = _
    rw [if_neg hn]; rfl
  · show (if b = C.1 then (ci, n) else _) = _
    rw [if_neg hn]; rfl
theorem TX.kp {t b room : Nat} {bs : List Nat} (T : TX C t b room bs) (E : eqO P C C') (h1 : P t) (h2 : P b) : TX C' t b room bs := by
  obtain ⟨t1, t2, t3, t4, t5, t6⟩ := T
  exact ⟨by rw [(E t h1).2.1]; exact t1, by rw [(E t h1).1]; exact t2, by rw [(E b h2).2.2]; exact t3, t4, t5, fun i hi => ⟨(t6 i hi).1, by rw [(E b h2).1]; exact (t6 i hi).2⟩⟩
theorem cBk.kp {c b : Nat} {k : Bk} (T : cBk C c b k) (E : eqO P C C') (h : P b) : cBk C' c b k := by
  unfold cBk at T ⊢
  rw [(E b h).2.1, (E b h).1, (E b h).1, (E b h).1, (E b h).1, (E b h).1, (E b h).1, (E b h).1, (E b h).1]
  exact T
theorem cPc.kp {b : Nat} {k : Pc} (T : cPc C b k) (E : eqO P C C') (h : P b) : cPc C' b k := by
  unfold cPc at T ⊢
  rw [(E b h).1, (E b h).1, (E b h).1, (E b h).1, (E b h).1, (E b h).1, (E b h).1]
  exact T
theorem cSh.kp {c : Nat} (T : cSh C c) (E : eqO P C C') (h : ∀ i, i < 150 → P (c + i)) : cSh C' c := by
  unfold cSh at T ⊢
  have h0 := h 0 (by omega)
  rw [Nat.add_zero] at h0
  obtain ⟨bs, tb⟩ := T.2.2.1
  have tb2 : ∃ bs, TX C' (c + 1) (c + 2) 600 bs := ⟨bs, tb.kp E (h 1 (by omega)) (h 2 (by omega))⟩
  rw [(E c h0).2.1, (E c h0).2.1, (E c h0).2.1, (E _ (h 1 (by omega))).2.1, (E _ (h 3 (by omega))).2.2, (E _ (h 29 (by omega))).2.2]
  refine ⟨T.1, T.2.1, tb2, ⟨T.2.2.2.1.1, T.2.2.2.1.2.1, fun i hi => ?_⟩, T.2.2.2.2.1, T.2.2.2.2.2.1, fun i hi => ?_⟩
  · rw [(E _ (h 3 (by omega))).2.1]
    exact T.2.2.2.1.2.2 i hi
  · rw [(E _ (h 29 (by omega))).2.1]
    exact T.2.2.2.2.2.2 i hi
theorem cRd.kp {c : Nat} {r : Rd} (T : cRd C c r) (E : eqO P C C') (h1 : r.1.length ≤ 25) (h2 : r.2.length ≤ 120) (h : ∀ i, i < 150 → P (c + i)) : cRd C' c r := by
  have h0 := h 0 (by omega)
  rw [Nat.add_zero] at h0
  refine ⟨⟨by rw [(E c h0).1]; exact T.1.1, fun k hk => (T.1.2 k hk).kp E ?_⟩, by rw [(E c h0).1]; exact T.2.1, fun k hk => (T.2.2 k hk).kp E ?_⟩
  · have := h (4 + k) (by omega)
    rwa [← Nat.add_assoc] at this
  · have := h (30 + k) (by omega)
    rwa [← Nat.add_assoc] at this
theorem cCm.kp {c : Nat} {m : Cm} (T : cCm C c m) (w : wC m) (E : eqO P C C') (h : ∀ i, i < 150 → P (c + i)) : cCm C' c m := ⟨T.1.kp E (h 1 (by omega)) (h 2 (by omega)), T.2.kp E (by have := w.2.1; omega) w.2.2.1 h⟩
theorem cEn.kp {ea : Nat → Nat} {pa : Nat → Nat → Nat} {ca : Nat → Nat} {e : Nat} {n : En} {es : List En} (T : cEn C ea pa ca e n) (w : wEn es e n) (E : eqO P C C') (h1 : ∀ i, i < 4 → P (ea e + i)) (h2 : ∀ k, k < (ePs n).length → ∀ i, i < 2 → P (pa e k + i)) (h3 : cR C (ea e) 7 ≠ none → ∀ i, i < 150 → P (ca e + i)) : cEn C' ea pa ca e n := by
  obtain ⟨⟨a1, a2, a3⟩, ⟨b1, b2, b3⟩, ⟨c1, c2, c3, c4⟩, d, f, g⟩ := T
  have h0 := h1 0 (by omega)
  rw [Nat.add_zero] at h0
  refine ⟨⟨by rw [(E _ h0).1]; exact a1, by rw [(E _ h0).2.1]; exact a2, a3.kp E (h1 1 (by omega)) (h1 2 (by omega))⟩, ⟨by rw [(E _ h0).2.1]; exact b1, by rw [(E _ h0).2.1]; exact b2, by rw [(E _ h0).1]; exact b3⟩, ⟨by rw [(E _ h0).2.1]; exact c1, by rw [(E _ (h1 3 (by omega))).2.2]; exact c2, by rw [(E _ h0).1]; exact c3, fun k hk => ⟨by rw [(E _ (h1 3 (by omega))).2.1]; exact (c4 k hk).1, (c4 k hk).2.kp E ?_ (h2 k hk 1 (by omega))⟩⟩, by rw [(E _ h0).1]; exact d, ?_, fun c hc => ?_⟩
  · have := h2 k hk 0 (by omega)
    rwa [Nat.add_zero] at this
  · rw [(E _ h0).2.1]
    rcases f with f | f
    · exact Or.inl f
    · exact Or.inr ⟨f.1, f.2.kp E (h3 (by rw [f.1]; simp))⟩
  · obtain ⟨g1, g2, g3⟩ := g c hc
    have hP := h3 (by rw [g1]; simp)
    have h00 := hP 0 (by omega)
    rw [Nat.add_zero] at h00
    exact ⟨by rw [(E _ h0).2.1]; exact g1, by rw [(E _ h00).2.1]; exact g2, g3.kp (w.2.2.2.2.2.2.2.2 c hc) E hP⟩
theorem cE.kp {ea : Nat → Nat} {pa : Nat → Nat → Nat} {ca : Nat → Nat} {es : List En} (T : cE C ea pa ca es) (w : wE es) (E : eqO P C C') (h0 : P 3 ∧ P 4) (h1 : ∀ e, e < es.length → ∀ i, i < 4 → P (ea e + i)) (h2 : ∀ e, e < es.length → ∀ k, k < (ePs (gE es e)).length → ∀ i, i < 2 → P (pa e k + i)) (h3 : ∀ e, e < es.length → cR C (ea e) 7 ≠ none → ∀ i, i < 150 → P (ca e + i)) : cE C' ea pa ca es := by
  refine ⟨⟨by rw [(E 3 h0.1).2.1]; exact T.1.1, by rw [(E 4 h0.2).2.2]; exact T.1.2.1, by rw [(E 3 h0.1).1]; exact T.1.2.2⟩, T.2.1, fun e he => ⟨by rw [(E 4 h0.2).2.1]; exact (T.2.2 e he).1, (T.2.2 e he).2.kp (w.2 e he) E (h1 e he) (h2 e he) (h3 e he)⟩⟩
theorem cPgS.kp {p : Nat} (T : cPgS C p) (E : eqO P C C') (h : ∀ i, i < 5 → P (p + i)) : cPgS C' p := by
  obtain ⟨a, b, c, d, e, bs, f⟩ := T
  have h0 := h 0 (by omega)
  rw [Nat.add_zero] at h0
  exact ⟨by rw [(E _ h0).2.1]; exact a, by rw [(E _ h0).2.1]; exact b, by rw [(E _ (h 3 (by omega))).2.2]; exact c, by rw [(E _ h0).2.1]; exact d, by rw [(E _ (h 4 (by omega))).2.2]; exact e, bs, f.kp E (h 1 (by omega)) (h 2 (by omega))⟩
theorem cPg.kp {p : Nat} {ea : Nat → Nat} {g : Pg} (T : cPg C p ea g) (E : eqO P C C') (h : ∀ i, i < 5 → P (p + i)) : cPg C' p ea g := by
  obtain ⟨a, ⟨b1, b2⟩, ⟨c1, c2⟩, d, e⟩ := T
  have h0 := h 0 (by omega)
  rw [Nat.add_zero] at h0
  exact ⟨a.kp E (h 1 (by omega)) (h 2 (by omega)), ⟨by rw [(E _ h0).1]; exact b1, fun i hi => by rw [(E _ (h 3 (by omega))).1]; exact b2 i hi⟩, ⟨by rw [(E _ h0).1]; exact c1, fun i hi => by rw [(E _ (h 4 (by omega))).2.1]; exact c2 i hi⟩, by rw [(E _ h0).1]; exact d, by rw [(E _ h0).1]; exact e⟩
theorem cNt.kp {l : List (Nat × Nat)} (T : cNt C l) (E : eqO P C C') (h : P 15 ∧ P 16 ∧ P 17) : cNt C' l := by
  unfold cNt at T ⊢
  rw [(E _ h.1).2.1, (E _ h.1).2.1, (E _ h.2.1).2.2, (E _ h.2.2).2.2, (E _ h.1).1]
  exact ⟨T.1, T.2.1, T.2.2.1, T.2.2.2.1, T.2.2.2.2.1, fun i hi => by rw [(E _ h.2.1).1, (E _ h.2.2).1]; exact T.2.2.2.2.2 i hi⟩
theorem cTop.kp {d ps pt : Nat} (T : cTop C d ps pt) (E : eqO P C C') (h : P 0) : cTop C' d ps pt := by
  unfold cTop at T ⊢
  rw [(E _ h).2.1, (E _ h).2.1, (E _ h).2.1, (E _ h).2.1, (E _ h).2.1, (E _ h).2.1, (E _ h).2.1, (E _ h).2.1]
  exact T
theorem cAux.kp (T : cAux C) (E : eqO P C C') (h : ∀ a, 5 ≤ a → a ≤ 14 → P a) : cAux C' := by
  obtain ⟨⟨a1, n, a2⟩, b1, b2, ⟨c1, l, c2⟩, d1, d2, d3, d4, d5, d6⟩ := T
  have h5 := h 5 (by decide) (by decide)
  have h8 := h 8 (by decide) (by decide)
  exact ⟨⟨by rw [(E _ h5).2.1]; exact a1, n, a2.kp E (h 6 (by decide) (by decide)) (h 7 (by decide) (by decide))⟩, by rw [(E _ h8).2.1]; exact b1, by rw [(E _ (h 9 (by decide) (by decide))).2.2]; exact b2, ⟨by rw [(E _ h8).2.1]; exact c1, l, c2.kp E (h 10 (by decide) (by decide)) (h 11 (by decide) (by decide))⟩, by rw [(E _ h8).2.1]; exact d1, by rw [(E _ (h 12 (by decide) (by decide))).2.2]; exact d2, by rw [(E _ h8).2.1]; exact d3, by rw [(E _ (h 13 (by decide) (by decide))).2.2]; exact d4, by rw [(E _ h8).2.1]; exact d5, by rw [(E _ (h 14 (by decide) (by decide))).2.2]; exact d6⟩
/-- what a call may do beside -/
def Kp (C C' : xC) : Prop := eqO (fun a => 178 ≤ a ∧ a < 224) C C' ∧ C.1 ≤ C'.1 ∧ C'.1 ≤ C.1 + 200 ∧ C'.2.1 ≤ C.2.1 + 2500
theorem Kp.rfl' : Kp C C := ⟨eqO.rfl', Nat.le_refl _, Nat.le_add_right _ _, Nat.le_add_right _ _⟩
end PCREL
