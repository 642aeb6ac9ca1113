section PCBARE
variable {C C' : xC} {σ : St} {g : Gh}
theorem c_target (R : CR C σ g) (w : wSt σ) (x : Int32) : g129 0 x C = some (sTgt σ x, C) := by
  obtain ⟨t, _, H, _, ⟨p, ps, _⟩, _⟩ := R
  have w1 := w.2.2.2.1.1.2.2.2.2.1
  have w2 := w.2.2.2.1.2
  unfold g129 sTgt g57
  rw [t.2.2.2.2.2.2.1]
  simp only [Option.bind_some]
  by_cases hi : x < 1
  · rw [if_pos hi, if_pos hi]
    rfl
  · have h0 : ¬ x < 0 := fun h9 => hi (Int32.lt_trans h9 (by decide))
    obtain ⟨j, hj, rfl⟩ := nI_of h0
    have j1 : ¬ j < 1 := fun h9 => hi ((nI_ltI (b := 1) hj (by decide)).mpr h9)
    rw [if_neg hi, if_neg hi, nI_clamp hj]
    simp (disch := omega) only [p.2.2.1.1, nI_leI]
    by_cases hj2 : j ≤ σ.2.2.2.1.2.2.1.length
    · have hj3 : j - 1 < σ.2.2.2.1.2.2.1.length := by omega
      rw [if_pos hj2, ps.2.2.2.1]
      simp only [Option.bind_some]
      rw [show nI j - 1 = nI (j - 1) from pk_sub (b := 1) (by omega), cLR_n (n := 40) (by omega) ps.2.2.2.2.1 (by decide), p.2.2.1.2 _ hj3, getD_in (d := 0) hj3]
      have q := g134_s H (o := some (σ.2.2.2.1.2.2.1.getD (j - 1) 0)) fun e he => by
        cases he
        exact w2 _ (by simp [List.getD_eq_getElem?_getD, hj3])
      rw [Option.map_some] at q
      simp only [Option.bind_some, gj57_25, q]
      rfl
    · rw [if_neg hj2, List.getElem?_eq_none (by omega)]
      rfl
theorem c_count (R : CR C σ g) (w : wSt σ) (x : Int32) : g132 0 x C = some (sCnt σ x, C) := by
  obtain ⟨t, T, H, _⟩ := R
  have wE1 := w.2.1
  have w1 := wE1.1
  have k1 : g85 3 C = some (nI (σ.2.1.filter fun e => (eOw e).isNone).length, C) := by
    unfold g85
    have key := l_fl (fun n j (s : Nat) => gl85_4 n 3 (nI s) (nI j) C) (fun j s => s + (if (eOw (gE σ.2.1 j)).isNone = true then 1 else 0)) (fun s => some (nI s, C)) (fun j s => s = ((σ.2.1.take j).filter fun e => (eOw e).isNone).length) σ.2.1.length (fun n s hs => ?_) (fun n j s hj hs => ?_) σ.2.1.length xFuel 0 0 (by omega) (pFuel _ (by omega)) (by simp)
    · refine Eq.trans key.1 ?_
      rw [key.2, List.take_length]
    · simp only [gl85_4, H.1.2.2]
      rw [if_pos (nI_le (Nat.le_refl _) (by omega))]
    · constructor
      · have q := g84_s H wE1 (nI j)
        rw [eIx_n wE1 hj] at q
        simp (disch := omega) only [gl85_4, H.1.2.2, nI_leI, q, Option.bind_some, gj85_23, nI_1]
        rw [if_neg (by omega)]
        cases ht : isTy σ.2.1 j with
        | true =>
          have ht2 : (eOw (gE σ.2.1 j)).isNone = true := ht
          simp [Option.filter, ht, ht2]
        | false =>
          have ht2 : (eOw (gE σ.2.1 j)).isNone = false := ht
          simp [Option.filter, ht, ht2]
      · rw [hs, take_s dEn hj]
        simp only [List.filter_append, List.length_append]
        have e1 : σ.2.1.getD j dEn = gE σ.2.1 j := rfl
        rw [e1]
        cases h1 : (eOw (gE σ.2.1 j)).isNone <;> simp [h1]
  have k2 : g86 3 C = some (nI (σ.2.1.filter fun e => (eCm e).isSome).length, C) := by
    unfold g86
    have key := l_fl (fun n j (s : Nat) => gl86_4 n 3 (nI s) (nI j) C) (fun j s => s + (if (eCm (gE σ.2.1 j)).isSome = true then 1 else 0)) (fun s => some (nI s, C)) (fun j s => s = ((σ.2.1.take j).filter fun e => (eCm e).isSome).length) σ.2.1.length (fun n s hs => ?_) (fun n j s hj hs => ?_) σ.2.1.length xFuel 0 0 (by omega) (pFuel _ (by omega)) (by simp)
    · refine Eq.trans key.1 ?_
      rw [key.2, List.take_length]
    · simp only [gl86_4, H.1.2.2]
      rw [if_pos (nI_le (Nat.le_refl _) (by omega))]
    · constructor
      · have q := g83_e H wE1 hj
        have d := (H.2.2 j hj).2.2.2.2.1
        simp (disch := omega) only [gl86_4, H.1.2.2, nI_leI, q, Option.bind_some, gj86_32, nI_1, d, bZ_0]
        rw [if_neg (by omega), if_neg (by simp)]
        cases ht : (eCm (gE σ.2.1 j)).isSome <;> simp
      · rw [hs, take_s dEn hj]
        simp only [List.filter_append, List.length_append]
        have e1 : σ.2.1.getD j dEn = gE σ.2.1 j := rfl
        rw [e1]
        cases h1 : (eCm (gE σ.2.1 j)).isSome <;> simp [h1]
  unfold g132 sCnt
  simp only [t.1, t.2.1, Option.bind_some, k1, k2, H.1.2.2, T.2.1]
  exact x_it (fun _ => rfl) fun _ => x_it (fun _ => rfl) fun _ => x_it (fun _ => rfl) fun _ => x_it (fun _ => rfl) fun _ => rfl
/-- cells of the static part, of other entries -/
theorem CR.ne (R : CR C σ g) (w : wSt σ) {e : Nat} (he : e < σ.2.1.length) {i : Nat} (hi : i < 4) : (∀ x, (x < 18 ∨ (168 ≤ x ∧ x < 224)) → x ≠ g.1 e + i) ∧ (∀ f, f < σ.2.1.length → f ≠ e → ∀ j, j < 4 → g.1 f + j ≠ g.1 e + i) ∧ (∀ f, f < σ.2.1.length → ∀ k, k < (ePs (gE σ.2.1 f)).length → ∀ j, j < 2 → g.2.1 f k + j ≠ g.1 e + i) ∧ (∀ f, f < σ.2.1.length → cR C (g.1 f) 7 ≠ none → ∀ j, j < 150 → g.2.2.1 f + j ≠ g.1 e + i) ∧ (∀ j, j < 150 → g.2.2.2.1 + j ≠ g.1 e + i) ∧ g.1 e + i < C.1 := by
  have r := R.2.2.2.2.2.2.2.2
  have w1 := w.2.1.1
  have q := r.1 e he i hi
  refine ⟨fun x hx h9 => ?_, fun f hf hfe j hj h9 => ?_, fun f hf k hk j hj h9 => ?_, fun f hf hc j hj h9 => ?_, fun j hj h9 => ?_, ?_⟩
  · rw [← h9, r.2.2.2.2.2 x hx] at q
    omega
  · rw [← h9, r.1 f hf j hj] at q
    omega
  · rw [← h9, r.2.1 f hf k hk j hj] at q
    omega
  · rw [← h9, r.2.2.1 f hf hc j hj] at q
    omega
  · rw [← h9, r.2.2.2.1 j hj] at q
    omega
  · refine Nat.not_le.mp fun h9 => ?_
    rw [r.2.2.2.2.1 _ h9] at q
    omega
/-- all but the entries, when an entry's cells change -/
theorem CR_rest {P : Nat → Prop} (R : CR C σ g) (E : eqO P C C') (hs : ∀ x, (x < 18 ∨ (168 ≤ x ∧ x < 224)) → P x) (hd : ∀ j, j < 150 → P (g.2.2.2.1 + j)) : cTop C' g.2.2.2.1 g.2.2.2.2.1 g.2.2.2.2.2.1 ∧ TX C' 1 2 600 σ.1 ∧ cI C' 5 5 = nI σ.2.2.1 ∧ (cPg C' g.2.2.2.2.1 g.1 σ.2.2.2.1 ∧ cPgS C' g.2.2.2.2.1 ∧ cPgS C' g.2.2.2.2.2.1 ∧ ((g.2.2.2.2.1 = 168 ∧ g.2.2.2.2.2.1 = 173) ∨ (g.2.2.2.2.1 = 173 ∧ g.2.2.2.2.2.1 = 168))) ∧ cNt C' σ.2.2.2.2 ∧ cAux C' ∧ (cSh C' g.2.2.2.1 ∧ ∃ bs, TX C' (g.2.2.2.1 + 1) (g.2.2.2.1 + 2) 600 bs) ∧ eqO (fun a => 178 ≤ a ∧ a < 224) C C' := by
  obtain ⟨a, b, _, d, ⟨e1, e2, e3, e4⟩, f, h, ⟨k1, bs, k2⟩, _⟩ := R
  have hp : ∀ p, p = 168 ∨ p = 173 → ∀ i, i < 5 → P (p + i) := fun p hp i hi => hs _ (by omega)
  have hps : g.2.2.2.2.1 = 168 ∨ g.2.2.2.2.1 = 173 := by omega
  have hpt : g.2.2.2.2.2.1 = 168 ∨ g.2.2.2.2.2.1 = 173 := by omega
  exact ⟨a.kp E (hs 0 (by decide)), b.kp E (hs 1 (by decide)) (hs 2 (by decide)), by rw [(E 5 (hs 5 (by decide))).1]; exact d, ⟨e1.kp E (hp _ hps), e2.kp E (hp _ hps), e3.kp E (hp _ hpt), e4⟩, f.kp E ⟨hs 15 (by decide), hs 16 (by decide), hs 17 (by decide)⟩, h.kp E fun x _ _ => hs x (by omega), ⟨k1.kp E hd, bs, k2.kp E (hd 1 (by decide)) (hd 2 (by decide))⟩, E.mono fun x hx => hs x (by omega)⟩
theorem c_bare (R : CR C σ g) (w : wSt σ) (a : Nat → Int32) : ∃ C', g120 0 (a 1) C = some ((stp σ 7 a).1, C') ∧ CR C' (stp σ 7 a).2 g ∧ Kp C C' := by
  have H := R.2.2.1
  have wE1 := w.2.1
  show ∃ C', _ = some ((sBare σ (a 1)).1, C') ∧ CR C' (sBare σ (a 1)).2 g ∧ Kp C C'
  unfold g120 sBare
  rw [R.1.2.1]
  simp only [Option.bind_some]
  rw [g83_s H wE1]
  simp only [Option.bind_some]
  cases he : eIx σ.2.1 (a 1) with
  | none => exact ⟨C, rfl, R, Kp.rfl'⟩
  | some e =>
    obtain ⟨h1, _⟩ := eIx_lt he
    rw [Option.map_some, if_neg (by simp)]
    simp only [Option.bind_some, g14_s H h1]
    cases hc : eCm (gE σ.2.1 e) with
    | none => exact ⟨C, rfl, R, Kp.rfl'⟩
    | some c =>
      have hcs : (eCm (gE σ.2.1 e)).isSome = true := by rw [hc]; rfl
      obtain ⟨_, m2, _⟩ := cE_cm H wE1 h1 hcs
      have e1 : gC σ.2.1 e = c := by unfold gC; rw [hc]; rfl
      rw [e1] at m2
      simp only [Option.isSome_some, if_true, Option.bind_some]
      rw [if_neg (show ¬ some (g.2.2.1 e) = none by simp), uI_I, if_neg (by simp), m2.2.1.1]
      refine ⟨_, rfl, ?_⟩
      obtain ⟨n1, n2, n3, n4, n5, n6⟩ := CR.ne R w h1 (i := 0) (by decide)
      rw [Nat.add_zero] at n1 n2 n3 n4 n5 n6
      have E : eqO (fun x => x ≠ g.1 e) C (uI C (g.1 e) 8 0) := eqO.uI (by simp)
      obtain ⟨r1, r2, r3, r4, r5, r6, r7, r8⟩ := CR_rest R E n1 n5
      have r := R.2.2.2.2.2.2.2.2
      refine ⟨⟨r1, r2, ⟨⟨?_, ?_, ?_⟩, fun i j hi hj => ?_, fun f hf => ?_⟩, r3, r4, r5, r6, r7, ?_⟩, r8, Nat.le_refl _, Nat.le_add_right _ _, Nat.le_add_right _ _⟩
      · exact H.1.1
      · exact H.1.2.1
      · rw [setC_len, (E 3 (n1 3 (by decide))).1]
        exact H.1.2.2
      · rw [setC_len] at hi hj
        exact H.2.1 i j hi hj
      · rw [setC_len] at hf
        rw [setC_gE h1]
        refine ⟨(H.2.2 f hf).1, ?_⟩
        by_cases hfe : f = e
        · subst hfe
          rw [if_pos rfl]
          obtain ⟨_, ⟨a1, a2, a3⟩, ⟨b1, b2, b3⟩, ⟨c1, c2, c3, c4⟩, d, ff, gg⟩ := H.2.2 f hf
          refine ⟨⟨by rw [uI_I, if_neg (by simp)]; exact a1, a2, a3.kp E (by omega) (by omega)⟩, ⟨b1, b2, by rw [uI_I, if_neg (by simp)]; exact b3⟩, ⟨c1, c2, by rw [uI_I, if_neg (by simp)]; exact c3, fun k hk => ⟨(c4 k hk).1, (c4 k hk).2.kp E ?_ ?_⟩⟩, by rw [uI_I, if_pos ⟨rfl, rfl⟩]; rfl, ?_, fun c hc => by cases hc⟩
          · have := n3 f hf k hk 0 (by decide)
            rwa [Nat.add_zero] at this
          · exact n3 f hf k hk 1 (by decide)
          · rcases ff with ff | ff
            · exact Or.inl ⟨ff.1, rfl⟩
            · exact Or.inr ⟨ff.1, ff.2.kp E (n4 f hf (by rw [ff.1]; simp))⟩
        · rw [if_neg hfe]
          exact (H.2.2 f hf).2.kp (wE1.2 f hf) E (n2 f hf hfe) (n3 f hf) (n4 f hf)
      · refine ⟨?_, fun f hf k hk => ?_, fun f hf hcc => ?_, r.2.2.2.1, r.2.2.2.2.1, r.2.2.2.2.2⟩
        · rw [setC_len]
          exact r.1
        · rw [setC_len] at hf
          refine r.2.1 f hf k ?_
          rw [setC_gE h1] at hk
          by_cases hfe : f = e
          · subst hfe
            rw [if_pos rfl] at hk
            exact hk
          · rw [if_neg hfe] at hk
            exact hk
        · rw [setC_len] at hf
          exact r.2.2.1 f hf hcc
end PCBARE
