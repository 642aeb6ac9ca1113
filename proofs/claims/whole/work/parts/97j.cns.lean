section PCNS
variable {C C' C0 : xC} {σ : St} {g : Gh} {es : List En} {l : List (Nat × Nat)}
theorem nsP_nil {e so : Nat} (h : (eCm (gE es e)).isSome = false) : (gC es e).2.1 = [] := by rw [gC_none h]
/-- the notes of an entry -/
theorem g42_s (R : CR C σ g) (w : wSt σ) {e : Nat} (he : e < σ.2.1.length) : ∃ C', g42 15 (some 3) (some (g.1 e)) C = some C' ∧ ntE C g σ.2.1.length C' ∧ cNt C' (nts σ.2.1 e) := by
  have wn := (nts_w w.2.1 he).1
  have hle : ∀ x, some e = some x → x < σ.2.1.length := fun x hx => by cases hx; exact he
  have E1 : ntE C g σ.2.1.length (uI C 15 2 0) := ⟨lkE.of (eqO.uI (fun h9 => h9.1 rfl)), rfl, rfl⟩
  have N1 : cNt (uI C 15 2 0) [] := by
    obtain ⟨t1, t2, t3, t4, t5, t6⟩ := R.2.2.2.2.2.1
    exact ⟨t1, t2, t3, t4, by rw [uI_e]; rfl, fun i hi => absurd hi (Nat.not_lt_zero _)⟩
  unfold g42
  simp only [bS]
  rw [show some (g.1 e) = (some e).map g.1 from rfl, g91_o (E1.e R w) w.2.1 hle]
  simp only [bS]
  -- behind the first note
  have e19 : ∀ (D : xC) (A : List (Nat × Nat)), ntE C g σ.2.1.length D → cNt D A → nts σ.2.1 e = ((((((A ++ (gC σ.2.1 e).2.1.flatMap (dBk σ.2.1 e)) ++ ((gC σ.2.1 e).2.1.filter (nsP σ.2.1 e 3)).map fun b => (3, bPl b)) ++ ((gC σ.2.1 e).2.1.filter (nsP σ.2.1 e 4)).map fun b => (4, bPl b)) ++ ((gC σ.2.1 e).2.1.filter (nsP σ.2.1 e 5)).map fun b => (5, bPl b)) ++ ((List.range (ePs (gE σ.2.1 e)).length).filter (ntU σ.2.1 e)).map fun k => (6, k)) ++ ntR σ.2.1 e) → ∃ C', gj42_19 15 (some 3) ((some e).map g.1) D = some C' ∧ ntE C g σ.2.1.length C' ∧ cNt C' (nts σ.2.1 e) := fun D A ED ND hn => by
    rw [Option.map_some]
    unfold gj42_19 gj42_56
    simp only [bS]
    rw [g14_s (ED.e R w) he]
    simp only [bS]
    rw [hn] at wn ⊢
    cases hc : (eCm (gE σ.2.1 e)).isSome with
    | false =>
      rw [if_neg (show ¬ false = true by decide), if_pos (Eq.refl none)]
      rw [nsP_nil (so := 0) hc] at wn ⊢
      simp only [List.flatMap_nil, List.filter_nil, List.map_nil, List.append_nil] at wn ⊢
      rw [List.append_assoc, List.length_append] at wn
      obtain ⟨V, v1, v2, v3⟩ := g48_s R w he ED ND (by omega)
      rw [v1]
      simp only [bS]
      rw [List.append_assoc]
      exact ⟨V, rfl, v3, v2⟩
    | true =>
      obtain ⟨m, hm⟩ := Option.isSome_iff_exists.mp hc
      have gc : gC σ.2.1 e = m := by unfold gC; rw [hm]; rfl
      rw [if_pos (Eq.refl true), if_neg (show ¬ some (g.2.2.1 e) = none by simp)]
      rw [gc] at wn ⊢
      simp only [List.length_append] at wn
      have wc := (w.2.1.2 e he).2.2.2.2.2.2.2.2 m hm
      obtain ⟨wt, w24, w120, wB1, wP1, _, w3, w7, _⟩ := wc
      have hB : ∀ b ∈ m.2.1, bSo b ≤ 7 ∧ bDe b ≤ 2 := fun b hb => ⟨(wB1 b hb).1, (wB1 b hb).2.2.1⟩
      obtain ⟨V, v1, v2, v3⟩ := g43_s R w he hm ED ND (by omega)
      rw [v1]
      simp only [bS]
      rw [g92_s (v2.e R w) w.2.1 he]
      simp only [bS]
      obtain ⟨o5, tV, rV, sV, hcV⟩ := v2.c R w he hm
      obtain ⟨X, x1, x2, x3, x4⟩ := g45_s (es := σ.2.1) (e := e) gc rV sV w24 hB w7 g.1 v3 (by simp only [List.length_append]; omega)
      rw [x1]
      simp only [bS]
      have EX := v2.o x3 x4
      obtain ⟨Y, y1, y2, y3⟩ := g46_s R w he hm EX x2 (by simp only [List.length_append]; omega)
      rw [y1]
      simp only [bS]
      obtain ⟨o5, tY, rY, sY, hcY⟩ := y3.c R w he hm
      obtain ⟨Z, z1, z2, z3, z4⟩ := g47_s (es := σ.2.1) (e := e) gc rY sY w24 hB w3 (((y3.e R w).2.2 e he).2.2.1.2.2) y2 (by simp only [List.length_append]; omega)
      rw [z1]
      simp only [bS]
      have EZ := y3.o z3 z4
      obtain ⟨U, u1, u2, u3⟩ := g48_s R w he EZ z2 (by simp only [List.length_append]; omega)
      rw [u1]
      simp only [bS]
      rw [List.append_assoc]
      exact ⟨U, rfl, u3, by simpa only [List.append_assoc] using u2⟩
  have ne := nts_eq (es := σ.2.1) e
  cases hn : cnt σ.2.1 40 (some e) with
  | none =>
    rw [if_pos (show Option.map g.1 none = none from rfl)]
    rw [hn, if_pos (show (none : Option Nat) = none from rfl)] at ne
    obtain ⟨V, v1, v2, v3, v4⟩ := g41_s N1 (by decide) 1 0
    rw [show g41 15 1 0 (uI C 15 2 0) = g41 15 (nI 1) (nI 0) (uI C 15 2 0) from rfl, v1]
    simp only [bS]
    exact e19 V _ (E1.o v3 v4) v2 ne
  | some t =>
    rw [if_neg (show ¬ Option.map g.1 (some t) = none by simp)]
    rw [hn, if_neg (show ¬ some t = none by simp)] at ne
    exact e19 _ _ E1 N1 ne
/-- notes -/
theorem c_notes (R : CR C σ g) (w : wSt σ) (a : Nat → Int32) : ∃ C', g130 0 (a 1) C = some ((stp σ 17 a).1, C') ∧ CR C' (stp σ 17 a).2 g ∧ Kp C C' ∧ wSt (stp σ 17 a).2 := by
  have H := R.2.2.1
  show ∃ C', _ = some ((sNts σ (a 1)).1, C') ∧ CR C' (sNts σ (a 1)).2 g ∧ Kp C C' ∧ wSt (sNts σ (a 1)).2
  unfold g130 sNts
  rw [R.1.2.1]
  simp only [bS]
  rw [g83_s H w.2.1]
  simp only [bS]
  cases hx : eIx σ.2.1 (a 1) with
  | none =>
    rw [if_pos (show Option.map g.1 none = none from rfl)]
    exact ⟨C, rfl, R, Kp.rfl', w⟩
  | some e =>
    obtain ⟨he, _⟩ := eIx_lt hx
    rw [Option.map_some, if_neg (by simp), R.1.2.2.2.2.1]
    simp only [bS]
    rw [R.1.2.1]
    obtain ⟨D, d1, d2, d3⟩ := g42_s R w he
    rw [d1]
    simp only [bS]
    have rg := R.2.2.2.2.2.2.2.2
    have w1 := w.2.1.1
    -- cells that stay
    have EO : eqO (fun a => nQ a ∧ (g.2.2.2.2.2.2 a < 300 ∨ 340 ≤ g.2.2.2.2.2.2 a)) C D := d2.1.eq fun a ha => ⟨ha.1, fun k hk => by
      obtain ⟨f, f1, _, f2, _⟩ := lkZ_r R hk
      have := ha.2
      omega⟩
    have st : ∀ x, (x < 18 ∨ (168 ≤ x ∧ x < 224)) → nQ x → nQ x ∧ (g.2.2.2.2.2.2 x < 300 ∨ 340 ≤ g.2.2.2.2.2.2 x) := fun x hx h2 => ⟨h2, by rw [rg.2.2.2.2.2 x hx]; omega⟩
    have HD := d2.e R w
    have Sh := dr_lk R w d2.1 R.nq
    rw [(EO 0 (st 0 (by decide) (by decide))).2.1, R.1.2.2.2.2.1]
    simp only [bS]
    rw [d3.2.2.2.2.1]
    obtain ⟨a1, b1, _, f, ⟨e1, e2, e3, e4⟩, _, h, _, _⟩ := R
    have hp : ∀ p, p = 168 ∨ p = 173 → ∀ i, i < 5 → nQ (p + i) ∧ (g.2.2.2.2.2.2 (p + i) < 300 ∨ 340 ≤ g.2.2.2.2.2.2 (p + i)) := fun p hp i hi => st _ (by omega) ⟨by omega, by omega, by omega⟩
    have hps : g.2.2.2.2.1 = 168 ∨ g.2.2.2.2.1 = 173 := by omega
    have hpt : g.2.2.2.2.2.1 = 168 ∨ g.2.2.2.2.2.1 = 173 := by omega
    refine ⟨D, rfl, ⟨a1.kp EO (st 0 (by decide) (by decide)), b1.kp EO (st 1 (by decide) (by decide)) (st 2 (by decide) (by decide)), HD, by rw [(EO 5 (st 5 (by decide) (by decide))).1]; exact f, ⟨e1.kp EO (hp _ hps), e2.kp EO (hp _ hps), e3.kp EO (hp _ hpt), e4⟩, d3, h.kp EO fun x h1 h2 => st x (by omega) ⟨by omega, by omega, by omega⟩, ⟨Sh, Sh.2.2.1⟩, rg.1, rg.2.1, fun f hf hc => rg.2.2.1 f hf ?_, rg.2.2.2.1, fun x hx => rg.2.2.2.2.1 x (by rw [← d2.2.1]; exact hx), rg.2.2.2.2.2⟩, ⟨EO.mono fun x hx => st x (by omega) ⟨by omega, by omega, by omega⟩, by rw [d2.2.1]; exact Nat.le_refl _, by rw [d2.2.1]; omega, by rw [d2.2.2]; omega⟩, w.1, w.2.1, w.2.2.1, w.2.2.2.1, nts_w w.2.1 he⟩
    have hf : f < σ.2.1.length := hf
    have h0 := rg.1 f hf 0 (by decide)
    rw [Nat.add_zero] at h0
    have hq : nQ (g.1 f) := ⟨rg.ne (Or.inl (by decide)) (by omega), rg.ne (Or.inl (by decide)) (by omega), rg.ne (Or.inl (by decide)) (by omega)⟩
    rw [(EO (g.1 f) ⟨hq, by omega⟩).2.1] at hc
    exact hc
end PCNS
