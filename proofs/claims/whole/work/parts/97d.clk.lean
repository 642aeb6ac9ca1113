section PCLK
variable {C C' C1 C2 : xC} {σ : St} {g : Gh} {es : List En} {Z : Nat → Nat → Prop} {Q : Nat → Prop}
/-- all is the same there, but what Z says of references -/
def lkE (Z : Nat → Nat → Prop) (Q : Nat → Prop) (C C' : xC) : Prop := ∀ a, Q a → (∀ k, cI C' a k = cI C a k) ∧ (∀ k, Z a k ∨ cR C' a k = cR C a k) ∧ cK C' a = cK C a
theorem lkE.rfl' : lkE Z Q C C := fun _ _ => ⟨fun _ => rfl, fun _ => Or.inr rfl, rfl⟩
theorem lkE.tr (x : lkE Z Q C C1) (y : lkE Z Q C1 C2) : lkE Z Q C C2 := fun a h => ⟨fun k => ((y a h).1 k).trans ((x a h).1 k), fun k => by
  rcases (y a h).2.1 k with h1 | h1
  · exact Or.inl h1
  · rcases (x a h).2.1 k with h2 | h2
    · exact Or.inl h2
    · exact Or.inr (h1.trans h2), ((y a h).2.2).trans (x a h).2.2⟩
theorem lkE.of (x : eqO Q C C') : lkE Z Q C C' := fun a h => ⟨(x a h).1, fun k => Or.inr ((x a h).2.1 k), (x a h).2.2⟩
theorem lkE.eq {P : Nat → Prop} (x : lkE Z Q C C') (h : ∀ a, P a → Q a ∧ ∀ k, ¬ Z a k) : eqO P C C' := fun a ha => ⟨(x a (h a ha).1).1, fun k => ((x a (h a ha).1).2.1 k).resolve_left ((h a ha).2 k), (x a (h a ha).1).2.2⟩
theorem lkE.uR {a k : Nat} {v : Option Nat} (h : Z a k) : lkE Z Q C (uR C a k v) := fun b hb => ⟨fun j => by rw [uR_i], fun j => by
  by_cases h1 : b = a ∧ j = k
  · rw [h1.1, h1.2]
    exact Or.inl h
  · exact Or.inr (uR_n (by omega)), rfl⟩
/-- the link fields of the comments -/
def lkZ (C : xC) (g : Gh) (n : Nat) (a k : Nat) : Prop := ∃ f, f < n ∧ cR C (g.1 f) 7 ≠ none ∧ ((g.2.2.1 f + 4 ≤ a ∧ a < g.2.2.1 f + 29 ∧ k = 9) ∨ (g.2.2.1 f + 30 ≤ a ∧ a < g.2.2.1 f + 150 ∧ k = 7))
theorem lkZ_r (R : CR C σ g) {a k : Nat} (h : lkZ C g σ.2.1.length a k) : ∃ f, f < σ.2.1.length ∧ cR C (g.1 f) 7 ≠ none ∧ g.2.2.2.2.2.2 a = 300 + f ∧ g.2.2.1 f ≤ a ∧ a - g.2.2.1 f ≠ 0 ∧ a - g.2.2.1 f ≠ 1 ∧ a - g.2.2.1 f ≠ 2 ∧ a - g.2.2.1 f ≠ 3 ∧ a - g.2.2.1 f ≠ 29 := by
  obtain ⟨f, h1, h2, h3⟩ := h
  have := R.2.2.2.2.2.2.2.2.2.2.1 f h1 h2 (a - g.2.2.1 f) (by omega)
  rw [show g.2.2.1 f + (a - g.2.2.1 f) = a by omega] at this
  exact ⟨f, h1, h2, this, by omega, by omega, by omega, by omega, by omega, by omega⟩
theorem cSh_lk {c : Nat} {P : Nat → Prop} (T : cSh C c) (E : eqO P C C') (h0 : P c) (h1 : P (c + 1)) (h2 : P (c + 2)) (h3 : P (c + 3)) (h29 : P (c + 29)) : cSh C' c := by
  obtain ⟨t1, t2, ⟨bs, t3⟩, ⟨t4, t5, t6⟩, t7, t8, t9⟩ := T
  exact ⟨by rw [(E _ h0).2.1]; exact t1, by rw [(E _ h1).2.1]; exact t2, ⟨bs, t3.kp E h1 h2⟩, ⟨by rw [(E _ h0).2.1]; exact t4, by rw [(E _ h3).2.2]; exact t5, fun i hi => by rw [(E _ h3).2.1]; exact t6 i hi⟩, by rw [(E _ h0).2.1]; exact t7, by rw [(E _ h29).2.2]; exact t8, fun i hi => by rw [(E _ h29).2.1]; exact t9 i hi⟩
theorem cRd_lk {c : Nat} {r : Rd} (T : cRd C c r) (E : lkE Z Q C C') (h1 : r.1.length ≤ 25) (h2 : r.2.length ≤ 120) (h : ∀ i, i < 150 → Q (c + i)) (hZ : ∀ a, ¬ Z a 0) : cRd C' c r := by
  have h0 := h 0 (by omega)
  rw [Nat.add_zero] at h0
  refine ⟨⟨by rw [(E c h0).1]; exact T.1.1, fun k hk => ?_⟩, by rw [(E c h0).1]; exact T.2.1, fun k hk => ?_⟩
  · have b := T.1.2 k hk
    have q := h (4 + k) (by omega)
    rw [← Nat.add_assoc] at q
    have e := E _ q
    unfold cBk at b ⊢
    rw [(e.2.1 0).resolve_left (hZ _), e.1, e.1, e.1, e.1, e.1, e.1, e.1, e.1]
    exact b
  · have b := T.2.2 k hk
    have q := h (30 + k) (by omega)
    rw [← Nat.add_assoc] at q
    have e := E _ q
    unfold cPc at b ⊢
    rw [e.1, e.1, e.1, e.1, e.1, e.1, e.1]
    exact b
/-- the entries stay when link fields change -/
theorem cE_lk (R : CR C σ g) (w : wSt σ) (E : lkE (lkZ C g σ.2.1.length) Q C C') (hQ : ∀ a, g.2.2.2.2.2.2 a < 1000 → Q a) (h3 : Q 3) (h4 : Q 4) : cE C' g.1 g.2.1 g.2.2.1 σ.2.1 := by
  have H := R.2.2.1
  have rg := R.2.2.2.2.2.2.2.2
  have w1 := w.2.1.1
  have z0 : ∀ a, ¬ lkZ C g σ.2.1.length a 0 := fun a h9 => by
    obtain ⟨f, _, _, h8⟩ := h9
    omega
  -- cells out of the comments
  have EO : eqO (fun a => Q a ∧ (g.2.2.2.2.2.2 a < 300 ∨ 340 ≤ g.2.2.2.2.2.2 a)) C C' := E.eq fun a ha => ⟨ha.1, fun k hk => by
    obtain ⟨f, f1, _, f2, _⟩ := lkZ_r R hk
    have := ha.2
    omega⟩
  have nn : ∀ x, (x < 18 ∨ (168 ≤ x ∧ x < 224)) → g.2.2.2.2.2.2 x < 300 ∨ 340 ≤ g.2.2.2.2.2.2 x := fun x hx => by rw [rg.2.2.2.2.2 x hx]; omega
  refine ⟨⟨by rw [(EO 3 ⟨h3, nn 3 (by decide)⟩).2.1]; exact H.1.1, by rw [(EO 4 ⟨h4, nn 4 (by decide)⟩).2.2]; exact H.1.2.1, by rw [(EO 3 ⟨h3, nn 3 (by decide)⟩).1]; exact H.1.2.2⟩, H.2.1, fun e he => ⟨by rw [(EO 4 ⟨h4, nn 4 (by decide)⟩).2.1]; exact (H.2.2 e he).1, ?_⟩⟩
  obtain ⟨_, ⟨a1, a2, a3⟩, ⟨b1, b2, b3⟩, ⟨c1, c2, c3, c4⟩, d, f, gg⟩ := H.2.2 e he
  have ke : ∀ i, i < 4 → Q (g.1 e + i) ∧ (g.2.2.2.2.2.2 (g.1 e + i) < 300 ∨ 340 ≤ g.2.2.2.2.2.2 (g.1 e + i)) := fun i hi => by
    have := rg.1 e he i hi
    exact ⟨hQ _ (by omega), by omega⟩
  have kp : ∀ k, k < (ePs (gE σ.2.1 e)).length → ∀ i, i < 2 → Q (g.2.1 e k + i) ∧ (g.2.2.2.2.2.2 (g.2.1 e k + i) < 300 ∨ 340 ≤ g.2.2.2.2.2.2 (g.2.1 e k + i)) := fun k hk i hi => by
    have := rg.2.1 e he k hk i hi
    have h9 := (w.2.1.2 e he).2.2.2.2.2.2.1
    exact ⟨hQ _ (by omega), by omega⟩
  have k0 := ke 0 (by decide)
  rw [Nat.add_zero] at k0
  -- the comment's own
  have EC : cR C (g.1 e) 7 ≠ none → eqO (fun a => ∃ i, i < 150 ∧ a = g.2.2.1 e + i ∧ (i = 0 ∨ i = 1 ∨ i = 2 ∨ i = 3 ∨ i = 29)) C C' := fun hc => E.eq fun a ha => by
    obtain ⟨i, i1, i2, i3⟩ := ha
    have q := rg.2.2.1 e he hc i i1
    refine ⟨hQ a (by rw [i2]; omega), fun k hk => ?_⟩
    obtain ⟨f, f1, _, f2, f3⟩ := lkZ_r R hk
    rw [i2] at f2 f3
    have : f = e := by omega
    subst this
    omega
  have shc : cR C (g.1 e) 7 ≠ none → cSh C (g.2.2.1 e) → cSh C' (g.2.2.1 e) := fun hc hs => cSh_lk hs (EC hc) ⟨0, by decide, rfl, by decide⟩ ⟨1, by decide, rfl, by decide⟩ ⟨2, by decide, rfl, by decide⟩ ⟨3, by decide, rfl, by decide⟩ ⟨29, by decide, rfl, by decide⟩
  refine ⟨⟨by rw [(EO _ k0).1]; exact a1, by rw [(EO _ k0).2.1]; exact a2, a3.kp EO (ke 1 (by decide)) (ke 2 (by decide))⟩, ⟨by rw [(EO _ k0).2.1]; exact b1, by rw [(EO _ k0).2.1]; exact b2, by rw [(EO _ k0).1]; exact b3⟩, ⟨by rw [(EO _ k0).2.1]; exact c1, by rw [(EO _ (ke 3 (by decide))).2.2]; exact c2, by rw [(EO _ k0).1]; exact c3, fun k hk => ⟨by rw [(EO _ (ke 3 (by decide))).2.1]; exact (c4 k hk).1, (c4 k hk).2.kp EO ?_ (kp k hk 1 (by decide))⟩⟩, by rw [(EO _ k0).1]; exact d, ?_, fun c hc => ?_⟩
  · have := kp k hk 0 (by decide)
    rwa [Nat.add_zero] at this
  · rw [(EO _ k0).2.1]
    rcases f with f | f
    · exact Or.inl f
    · exact Or.inr ⟨f.1, shc (by rw [f.1]; simp) f.2⟩
  · obtain ⟨g1, g2, g3⟩ := gg c hc
    have hne : cR C (g.1 e) 7 ≠ none := by rw [g1]; simp
    have wc := (w.2.1.2 e he).2.2.2.2.2.2.2.2 c hc
    have ec := EC hne
    refine ⟨by rw [(EO _ k0).2.1]; exact g1, by rw [(ec (g.2.2.1 e) ⟨0, by decide, rfl, by decide⟩).2.1]; exact g2, g3.1.kp ec ⟨1, by decide, rfl, by decide⟩ ⟨2, by decide, rfl, by decide⟩, cRd_lk g3.2 E (by have := wc.2.1; omega) wc.2.2.1 (fun i hi => hQ _ (by rw [rg.2.2.1 e he hne i hi]; omega)) z0⟩
/-- the draft stays too -/
theorem dr_lk (R : CR C σ g) (w : wSt σ) (E : lkE (lkZ C g σ.2.1.length) Q C C') (hQ : ∀ a, g.2.2.2.2.2.2 a < 1000 → Q a) : cSh C' g.2.2.2.1 := by
  have rg := R.2.2.2.2.2.2.2.2
  have EO : eqO (fun a => g.2.2.2.2.2.2 a = 350) C C' := E.eq fun a ha => ⟨hQ a (by omega), fun k hk => by
    obtain ⟨f, f1, _, f2, _⟩ := lkZ_r R hk
    have := w.2.1.1
    omega⟩
  exact R.2.2.2.2.2.2.2.1.1.kp EO fun i hi => rg.2.2.2.1 i hi
end PCLK
