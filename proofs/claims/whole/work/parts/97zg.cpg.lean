section PCPG
variable {C C' C0 D : xC} {σ : St} {g : Gh} {es : List En}
/-- cells that laying out a page leaves -/
def pQ (p a : Nat) : Prop := a ≠ 0 ∧ (a < 8 ∨ 14 < a) ∧ (a < p ∨ p + 5 ≤ a)
theorem CR.pq (R : CR C σ g) {p : Nat} (hp : p = 168 ∨ p = 173) : ∀ a, g.2.2.2.2.2.2 a < 1000 → pQ p a := fun a ha => by
  have rg := R.2.2.2.2.2.2.2.2
  have h : ∀ x, (x < 18 ∨ (168 ≤ x ∧ x < 224)) → a ≠ x := fun x hx => rg.ne hx ha
  refine ⟨h 0 (by omega), ?_, ?_⟩
  · have := h a
    omega
  · have := h a
    omega
/-- the page alone changes -/
theorem CR_page (R : CR C σ g) (w : wSt σ) {p : Nat} (hp : p = g.2.2.2.2.2.1) (E : lkE (lkZ C g σ.2.1.length) (pQ p) C D) (s : sm C D) (A : cAux D) (S : cPgS D p) {x y : Nat} {pg : Pg} (hxy : (x = g.2.2.2.2.1 ∧ y = p) ∨ (x = p ∧ y = g.2.2.2.2.1)) (T : cTop D g.2.2.2.1 x y) (hP : cPg D x g.1 pg) : CR D (σ.1, σ.2.1, σ.2.2.1, pg, σ.2.2.2.2) (g.1, g.2.1, g.2.2.1, g.2.2.2.1, x, y, g.2.2.2.2.2.2) ∧ Kp C D := by
  have rg := R.2.2.2.2.2.2.2.2
  have w1 := w.2.1.1
  have hpt : p = 168 ∨ p = 173 := by have := R.2.2.2.2.1.2.2.2; omega
  have hps : g.2.2.2.2.1 = 168 ∨ g.2.2.2.2.1 = 173 := by have := R.2.2.2.2.1.2.2.2; omega
  have hne : g.2.2.2.2.1 ≠ p := by have := R.2.2.2.2.1.2.2.2; omega
  have Q := R.pq hpt
  have EO : eqO (fun a => pQ p a ∧ (g.2.2.2.2.2.2 a < 300 ∨ 340 ≤ g.2.2.2.2.2.2 a)) C D := E.eq fun a ha => ⟨ha.1, fun k hk => by
    obtain ⟨f, f1, _, f2, _⟩ := lkZ_r R hk
    have := ha.2
    omega⟩
  have st : ∀ x, (x < 18 ∨ (168 ≤ x ∧ x < 224)) → pQ p x → pQ p x ∧ (g.2.2.2.2.2.2 x < 300 ∨ 340 ≤ g.2.2.2.2.2.2 x) := fun x hx h2 => ⟨h2, by rw [rg.2.2.2.2.2 x hx]; omega⟩
  have q : ∀ a, (0 < a ∧ a < 8) ∨ (14 < a ∧ a < 18) → pQ p a := fun a ha => ⟨by omega, by omega, by omega⟩
  have HD := cE_lk R w E Q (q 3 (by decide)) (q 4 (by decide))
  have Sh := dr_lk R w E Q
  obtain ⟨a1, b1, _, f, ⟨e1, e2, e3, e4⟩, nn, h, _, _⟩ := R
  have hs : ∀ i, i < 5 → pQ p (g.2.2.2.2.1 + i) ∧ (g.2.2.2.2.2.2 (g.2.2.2.2.1 + i) < 300 ∨ 340 ≤ g.2.2.2.2.2.2 (g.2.2.2.2.1 + i)) := fun i hi => st _ (by omega) ⟨by omega, by omega, by omega⟩
  have Ss : cPgS D g.2.2.2.2.1 := e2.kp EO hs
  have Sxy : cPgS D x ∧ cPgS D y := by
    rcases hxy with ⟨rfl, rfl⟩ | ⟨rfl, rfl⟩
    · exact ⟨Ss, S⟩
    · exact ⟨S, Ss⟩
  refine ⟨⟨T, b1.kp EO (st 1 (by decide) (q 1 (by decide))) (st 2 (by decide) (q 2 (by decide))), HD, by rw [(EO 5 (st 5 (by decide) (q 5 (by decide)))).1]; exact f, ⟨hP, Sxy.1, Sxy.2, by show (x = 168 ∧ y = 173) ∨ (x = 173 ∧ y = 168); omega⟩, nn.kp EO ⟨st 15 (by decide) (q 15 (by decide)), st 16 (by decide) (q 16 (by decide)), st 17 (by decide) (q 17 (by decide))⟩, A, ⟨Sh, Sh.2.2.1⟩, rg.1, rg.2.1, fun f hf hc => rg.2.2.1 f hf ?_, rg.2.2.2.1, fun x hx => rg.2.2.2.2.1 x (by rw [← s.1]; exact hx), rg.2.2.2.2.2⟩, EO.mono fun x hx => st x (by omega) ⟨by omega, by omega, by omega⟩, by rw [s.1]; exact Nat.le_refl _, by rw [s.1]; omega, by rw [s.2]; omega⟩
  have hf : f < σ.2.1.length := hf
  have h0 := rg.1 f hf 0 (by decide)
  rw [Nat.add_zero] at h0
  rw [(EO (g.1 f) ⟨Q _ (by omega), by omega⟩).2.1] at hc
  exact hc
theorem cAux.pn (A : cAux C) (E : pnE C D) : cAux D := by
  obtain ⟨⟨a1, n, a2⟩, b1, b2, ⟨c1, l, c2⟩, d1, d2, d3, d4, d5, d6⟩ := A
  exact ⟨⟨by rw [(E.1 5 (by decide)).2.1]; exact a1, n, a2.kp E.1 (by decide) (by decide)⟩, by rw [E.2.1]; exact b1, by rw [E.2.2.1]; exact b2, ⟨by rw [E.2.1]; exact c1, l, c2.kp E.1 (by decide) (by decide)⟩, by rw [E.2.1]; exact d1, by rw [(E.1 12 (by decide)).2.2]; exact d2, by rw [E.2.1]; exact d3, by rw [(E.1 13 (by decide)).2.2]; exact d4, by rw [E.2.1]; exact d5, by rw [(E.1 14 (by decide)).2.2]; exact d6⟩
/-- the blocks of a page -/
def plI (es : List En) (x : Option Nat) : List (Nat × Nat) := stI es 41 x ++ match x with
  | none => []
  | some e => [2, 3, 4, 5, 6].flatMap fun s => tgI es e s 0 (gC es e).2.1.length
theorem plI_v (w0 : wE es) {x : Option Nat} (hx : ∀ e, x = some e → e < es.length) : (∀ q ∈ plI es x, vI es q) ∧ (plI es x).length ≤ 960 := by
  unfold plI
  constructor
  · intro q hq
    rw [List.mem_append] at hq
    rcases hq with hq | hq
    · exact (stI_v w0 41 x hx q hq).1
    · cases x with
      | none => exact absurd hq (List.not_mem_nil)
      | some e =>
        dsimp only at hq
        rw [List.mem_flatMap] at hq
        obtain ⟨s, hs, hq⟩ := hq
        exact (tgI_v (hx e rfl) (by omega) (by simp at hs; omega) q hq).1
  · rw [List.length_append]
    cases x with
    | none => exact Nat.zero_le _
    | some e => exact pl_len w0 (hx e rfl)
theorem pag_pl (e w : Nat) (ls : Bool) : pag es e w ls = pgF es (layAll es w ls ((plI es (cnt es 40 (some e))).map (bkI es)) none (pg0 es e)) := by
  rw [pag_eq, ← layAll_app]
  congr 2
  unfold plI
  rw [List.map_append]
  congr 1
  cases cnt es 40 (some e) with
  | none => rfl
  | some x => exact tags_I x
/-- the plan of a page -/
theorem g125_p (R : CR C σ g) (w : wSt σ) {x : Option Nat} (hx : ∀ e, x = some e → e < σ.2.1.length ∧ (eCm (gE σ.2.1 e)).isSome = true) : ∃ C1 C2 C3, g19 8 C = some C1 ∧ g20 8 (some 3) (x.map g.1) 0 C1 = some C2 ∧ g21 8 (x.map g.1) C2 = some C3 ∧ plC C3 g (plI σ.2.1 x) ∧ pnE C C1 ∧ pnE C C2 ∧ pnE C C3 := by
  have pv := plI_v w.2.1 (x := x) fun e he => (hx e he).1
  obtain ⟨C1, hC1⟩ : ∃ X, X = uI C 8 1 0 := ⟨_, rfl⟩
  have E1 : pnE C C1 := by
    rw [hC1]
    exact ⟨eqO.uI (fun h9 => h9 (by simp)), fun _ => rfl, rfl, rfl, rfl, rfl⟩
  have P1 : plC C1 g [] := ⟨by rw [hC1, uI_e]; rfl, fun i hi => absurd hi (Nat.not_lt_zero _)⟩
  have h1 : g19 8 C = some C1 := by
    unfold g19
    rw [hC1]
    rfl
  have pl2 := pv.2
  unfold plI at pl2 ⊢
  rw [List.length_append] at pl2
  obtain ⟨C2, a1, a2, a3⟩ := gr20_s R w 41 60 0 x C1 [] (by decide) (by decide) E1 P1 hx (by simp; omega)
  rw [List.nil_append] at a2
  cases x with
  | none =>
    refine ⟨C1, C2, C2, h1, a1, ?_, by simpa using a2, E1, a3, a3⟩
    unfold g21
    rw [if_pos (show Option.map g.1 none = none from rfl)]
    rfl
  | some e =>
    obtain ⟨he, hc⟩ := hx e rfl
    obtain ⟨m, hm⟩ := Option.isSome_iff_exists.mp hc
    have gc : gC σ.2.1 e = m := by unfold gC; rw [hm]; rfl
    dsimp only at pl2 ⊢
    rw [gc] at pl2 ⊢
    obtain ⟨C3, b1, b2, b3⟩ := g21_s R w he hm a3 a2 pl2
    exact ⟨C1, C2, C3, h1, a1, b1, b2, E1, a3, b3⟩
end PCPG
