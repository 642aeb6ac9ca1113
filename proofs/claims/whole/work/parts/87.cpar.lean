section PCPAR
variable {C C' : xC} {σ : St} {g : Gh} {es : List En}
theorem g15_s {ea : Nat → Nat} {pa : Nat → Nat → Nat} {ca : Nat → Nat} (H : cE C ea pa ca es) (w : wE es) {e k : Nat} (he : e < es.length) (hk : k < (ePs (gE es e)).length) : g15 (ea e) (nI k) C = some (some (pa e k), C) := by
  obtain ⟨_, _, _, ⟨c1, c2, c3, c4⟩, _⟩ := H.2.2 e he
  have h4 := (w.2 e he).2.2.2.2.2.2.1
  unfold g15 gj15_22
  rw [if_neg (nI_pos (by omega)), c3, if_pos (nI_lt hk (by omega)), c1]
  simp only [bS]
  rw [cLR_n (n := 4) (by omega) c2 (by decide), (c4 k hk).1]
  rfl
theorem g16_s {ea : Nat → Nat} {pa : Nat → Nat → Nat} {ca : Nat → Nat} (H : cE C ea pa ca es) (w : wE es) {t b room : Nat} {bs : List Nat} (T : TX C t b room bs) (hr : room < 1000000) {e : Nat} (he : e < es.length) {i z : Nat} (hi : i ≤ z) (hz : z ≤ bs.length) : g16 (ea e) (some t) (nI i) (nI z) C = some (bZ ((ePs (gE es e)).any fun a => decide (a = cut bs i z)), C) := by
  obtain ⟨_, _, _, ⟨c1, c2, c3, c4⟩, _⟩ := H.2.2 e he
  have h4 := (w.2 e he).2.2.2.2.2.2.1
  have key : ∀ m n k, k + m = (ePs (gE es e)).length → m < n → ((ePs (gE es e)).take k).any (fun a => decide (a = cut bs i z)) = false → gl16_3 n (ea e) (some t) (nI i) (nI z) (nI k) C = some (bZ ((ePs (gE es e)).any fun a => decide (a = cut bs i z)), C) := by
    intro m
    induction m with
    | zero =>
      intro n k hk hn ha
      obtain ⟨n, rfl⟩ : ∃ j, n = j + 1 := ⟨n - 1, by omega⟩
      rw [gl16_3]
      dsimp only
      rw [List.take_of_length_le (by omega)] at ha
      rw [c3, if_pos (nI_le (by omega) (by omega)), ha]
      rfl
    | succ m ih =>
      intro n k hk hn ha
      obtain ⟨n, rfl⟩ : ∃ j, n = j + 1 := ⟨n - 1, by omega⟩
      have ht := any_tk (p := fun a => decide (a = cut bs i z)) ([] : List Nat) (show k < (ePs (gE es e)).length by omega)
      rw [ha, Bool.false_or] at ht
      rw [gl16_3]
      dsimp only
      rw [c3, if_neg (nI_ge (by omega) (by omega)), g15_s H w he (by omega)]
      simp only [bS]
      rw [if_neg (by simp), g103_s (c4 k (by omega)).2 T hi hz hr]
      simp only [bS, bZ_0]
      by_cases h : (ePs (gE es e)).getD k [] = cut bs i z
      · rw [decide_eq_true h, if_neg (show ¬ true = false by decide)]
        have : (ePs (gE es e)).any (fun a => decide (a = cut bs i z)) = true := List.any_eq_true.mpr ⟨_, gD_mem (d := []) (show k < (ePs (gE es e)).length by omega), decide_eq_true h⟩
        rw [this]
        rfl
      · rw [decide_eq_false h, if_pos (Eq.refl false)]
        unfold gj16_38
        rw [nI_1]
        exact ih n (k + 1) (by omega) (by omega) (by rw [ht, decide_eq_false h])
  unfold g16
  exact key (ePs (gE es e)).length xFuel 0 (by omega) (pFuel _ (by omega)) rfl
theorem cEn_pa {ea : Nat → Nat} {pa pa' : Nat → Nat → Nat} {ca : Nat → Nat} {e : Nat} {n : En} (T : cEn C ea pa ca e n) (h : ∀ k, k < (ePs n).length → pa' e k = pa e k) : cEn C ea pa' ca e n := by
  obtain ⟨a, b, ⟨c1, c2, c3, c4⟩, d⟩ := T
  exact ⟨a, b, ⟨c1, c2, c3, fun k hk => by rw [h k hk]; exact c4 k hk⟩, d⟩
/-- the ghosts with a new parameter -/
def gPar (C : xC) (e n : Nat) (g : Gh) : Gh := (g.1, fun f k => if f = e ∧ k = n then C.1 else g.2.1 f k, g.2.2.1, g.2.2.2.1, g.2.2.2.2.1, g.2.2.2.2.2.1, fun a => if C.1 ≤ a ∧ a < C.1 + 2 then 100 + 4 * e + n else g.2.2.2.2.2.2 a)
/-- the cells of a new parameter -/
theorem g17_c (R : CR C σ g) (w : wSt σ) (hb : σ.1.length ≤ 10) {e : Nat} (he : e < σ.2.1.length) (h4 : (ePs (gE σ.2.1 e)).length < 4) : ∃ C', g17 (g.1 e) (some 1) C = some (nI ((ePs (gE σ.2.1 e)).length + 1), C') ∧ C'.1 = C.1 + 2 ∧ C'.2.1 = C.2.1 + 12 ∧ eqO (fun a => a < C.1 ∧ a ≠ g.1 e ∧ a ≠ g.1 e + 3) C C' ∧ TX C' C.1 (C.1 + 1) 10 σ.1 ∧ (∀ k, cR C' (g.1 e) k = cR C (g.1 e) k) ∧ (∀ k, cI C' (g.1 e) k = if k = 6 then nI ((ePs (gE σ.2.1 e)).length + 1) else cI C (g.1 e) k) ∧ (∀ k, cR C' (g.1 e + 3) k = if k = (ePs (gE σ.2.1 e)).length then some C.1 else cR C (g.1 e + 3) k) ∧ cK C' (g.1 e + 3) = cK C (g.1 e + 3) ∧ (∀ k, cI C' (g.1 e + 3) k = cI C (g.1 e + 3) k) := by
  have H := R.2.2.1
  obtain ⟨_, _, _, ⟨c1, c2, c3, c4⟩, _⟩ := H.2.2 e he
  obtain ⟨n1, n2, n3, n4, n5, n6⟩ := CR.ne R w he (i := 0) (by decide)
  obtain ⟨m1, m2, m3, m4, m5, m6⟩ := CR.ne R w he (i := 3) (by decide)
  rw [Nat.add_zero] at n6
  have top : 2 < C.1 := by
    have := m1 2 (by decide)
    refine Nat.not_le.mp fun h9 => ?_
    have r := R.2.2.2.2.2.2.2.2
    have q1 := r.2.2.2.2.1 2 h9
    have q2 := r.2.2.2.2.2 2 (by decide)
    omega
  unfold g17
  rw [c1]
  simp only [bS]
  have hlt : cI C (g.1 e) 6 < Int32.ofNat (cK C (g.1 e + 3)).2 := by
    rw [c3, c2]
    exact nI_lt h4 (by decide)
  rw [if_pos hlt]
  have e95 : g95 C.1 10 (cNew C 9) = some (uR (cAdd (cNew C 9) 12 10) C.1 0 (some (cNew C 9).1)) := g95_s (C := cNew C 9) (t := C.1) (n := 10) (by decide)
  rw [e95]
  simp only [bS]
  have Ea : eqO (fun a => a < C.1) C (cNew C 9) := eqO.add (fun h9 => Nat.lt_irrefl _ h9)
  have Eb : eqO (fun a => a < C.1) (cNew C 9) (cAdd (cNew C 9) 12 10) := eqO.add (fun h9 => by
    have h9 : C.1 + 1 < C.1 := h9
    omega)
  have Ec : eqO (fun a => a < C.1) (cAdd (cNew C 9) 12 10) (uR (cAdd (cNew C 9) 12 10) C.1 0 (some (cNew C 9).1)) := eqO.uR (fun h9 => Nat.lt_irrefl _ h9)
  have E2 : eqO (fun a => a < C.1) C (uR (cAdd (cNew C 9) 12 10) C.1 0 (some (cNew C 9).1)) := (Ea.tr Eb).tr Ec
  have T2 : TX (uR (cAdd (cNew C 9) 12 10) C.1 0 (some (cNew C 9).1)) C.1 (C.1 + 1) 10 [] := by
    refine ⟨?_, ?_, ?_, by decide, by decide, fun i hi => absurd hi (Nat.not_lt_zero _)⟩
    · rw [uR_R, if_pos ⟨rfl, rfl⟩]
      rfl
    · rw [uR_I, cAdd_I, if_neg (show ¬ C.1 = (cNew C 9).1 from fun h9 => by
        have h9 : C.1 = C.1 + 1 := h9
        omega)]
      show cI (cAdd C 9 (cN 9)) C.1 1 = _
      rw [cAdd_I, if_pos rfl]
      rfl
    · rw [uR_K, cAdd_K, if_pos (show C.1 + 1 = (cNew C 9).1 from rfl)]
  have s1 : (uR (cAdd (cNew C 9) 12 10) C.1 0 (some (cNew C 9).1)).1 = C.1 + 2 := rfl
  have s2 : (uR (cAdd (cNew C 9) 12 10) C.1 0 (some (cNew C 9).1)).2.1 = C.2.1 + 12 := rfl
  generalize uR (cAdd (cNew C 9) 12 10) C.1 0 (some (cNew C 9).1) = C2 at E2 T2 s1 s2 ⊢
  obtain ⟨C3, f1, f2, f3, f4⟩ := g102_s T2 (R.2.1.kp E2 (by omega) (by omega)) (by omega) ⟨by omega, by omega, by omega, by omega⟩ hb (by decide)
  rw [f1]
  simp only [bS]
  have E3 : eqO (fun a => a < C.1) C C3 := E2.tr (f3.mono fun a ha => ⟨by omega, by omega⟩)
  have p5 : cR C3 (g.1 e) 5 = some (g.1 e + 3) := by rw [(E3 _ n6).2.1]; exact c1
  have p6 : cI C3 (g.1 e) 6 = nI (ePs (gE σ.2.1 e)).length := by rw [(E3 _ n6).1]; exact c3
  have p4 : (cK C3 (g.1 e + 3)).2 = 4 := by rw [(E3 _ m6).2.2]; exact c2
  rw [p5, p6]
  simp only [bS]
  rw [cSR_n h4 p4 (by decide)]
  simp only [bS]
  have q6 : cI (uR C3 (g.1 e + 3) (ePs (gE σ.2.1 e)).length (some C.1)) (g.1 e) 6 = nI (ePs (gE σ.2.1 e)).length := p6
  rw [q6, nI_1]
  have r6 : cI (uI (uR C3 (g.1 e + 3) (ePs (gE σ.2.1 e)).length (some C.1)) (g.1 e) 6 (nI ((ePs (gE σ.2.1 e)).length + 1))) (g.1 e) 6 = nI ((ePs (gE σ.2.1 e)).length + 1) := by rw [uI_I, if_pos ⟨rfl, rfl⟩]
  rw [r6]
  refine ⟨_, rfl, by rw [uI_1, uR_1, f4.1, s1], by rw [uI_2, uR_2, f4.2, s2], ?_, ?_, fun k => ?_, fun k => ?_, fun k => ?_, ?_, fun k => ?_⟩
  · exact ((E3.mono fun a ha => ha.1).tr (eqO.uR (fun h9 => h9.2.2 rfl))).tr (eqO.uI (fun h9 => h9.2.1 rfl))
  · exact (f2.kp (P := fun a => a ≠ g.1 e + 3) (eqO.uR (fun h9 => h9 rfl)) (by omega) (by omega)).kp (P := fun a => a ≠ g.1 e) (eqO.uI (fun h9 => h9 rfl)) (by omega) (by omega)
  · rw [uI_R, uR_R, if_neg (by omega), (E3 _ n6).2.1]
  · rw [uI_I]
    by_cases hk : k = 6
    · rw [if_pos ⟨rfl, hk⟩, if_pos hk]
    · rw [if_neg fun h9 => hk h9.2, if_neg hk, uR_I, (E3 _ n6).1]
  · rw [uI_R, uR_R]
    by_cases hk : k = (ePs (gE σ.2.1 e)).length
    · rw [if_pos ⟨rfl, hk⟩, if_pos hk]
    · rw [if_neg fun h9 => hk h9.2, if_neg hk, (E3 _ m6).2.1]
  · rw [uI_K, uR_K, (E3 _ m6).2.2]
  · rw [uI_I, if_neg (by omega), uR_I, (E3 _ m6).1]
theorem w_par (w : wE es) {e : Nat} (he : e < es.length) {nm : List Nat} (hn : wN nm) (h4 : (ePs (gE es e)).length < 4) : wE (es.set e (eOw (gE es e), ePa (gE es e), eGv (gE es e), eNm (gE es e), ePs (gE es e) ++ [nm], eCm (gE es e))) := by
  have ge : ∀ x, gE (es.set e (eOw (gE es e), ePa (gE es e), eGv (gE es e), eNm (gE es e), ePs (gE es e) ++ [nm], eCm (gE es e))) x = if x = e then (eOw (gE es e), ePa (gE es e), eGv (gE es e), eNm (gE es e), ePs (gE es e) ++ [nm], eCm (gE es e)) else gE es x := fun x => gE_set he
  have gow : ∀ x, eOw (gE (es.set e (eOw (gE es e), ePa (gE es e), eGv (gE es e), eNm (gE es e), ePs (gE es e) ++ [nm], eCm (gE es e))) x) = eOw (gE es x) := fun x => by
    rw [ge]
    by_cases h : x = e
    · rw [if_pos h, h]
      rfl
    · rw [if_neg h]
  refine ⟨by rw [List.length_set]; exact w.1, fun x hx => ?_⟩
  rw [List.length_set] at hx
  rw [ge]
  by_cases h : x = e
  · rw [if_pos h]
    obtain ⟨a1, a2, a3, a4, a5, a6, a7, a8, a9⟩ := w.2 e he
    rw [h]
    refine ⟨fun o ho => by rw [gow]; exact a1 o ho, fun p hp => by rw [gow]; exact a2 p hp, a3, a4, a5, a6, by show (ePs (gE es e) ++ [nm]).length ≤ 4; simp; omega, fun l hl => ?_, a9⟩
    have hl : l ∈ ePs (gE es e) ++ [nm] := hl
    rw [List.mem_append, List.mem_singleton] at hl
    rcases hl with hl | hl
    · exact a8 l hl
    · rw [hl]; exact hn
  · rw [if_neg h]
    obtain ⟨a1, a2, a3⟩ := w.2 x hx
    exact ⟨fun o ho => by rw [gow]; exact a1 o ho, fun p hp => by rw [gow]; exact a2 p hp, a3⟩
/-- a new parameter -/
theorem g17_s (R : CR C σ g) (w : wSt σ) (hb : σ.1.length ≤ 10) {e : Nat} (he : e < σ.2.1.length) (h4 : (ePs (gE σ.2.1 e)).length < 4) : ∃ C', g17 (g.1 e) (some 1) C = some (nI ((ePs (gE σ.2.1 e)).length + 1), C') ∧ CR C' (σ.1, σ.2.1.set e (eOw (gE σ.2.1 e), ePa (gE σ.2.1 e), eGv (gE σ.2.1 e), eNm (gE σ.2.1 e), ePs (gE σ.2.1 e) ++ [σ.1], eCm (gE σ.2.1 e)), σ.2.2) (gPar C e (ePs (gE σ.2.1 e)).length g) ∧ eqO (fun a => 178 ≤ a ∧ a < 224) C C' ∧ C'.1 = C.1 + 2 ∧ C'.2.1 = C.2.1 + 12 := by
  obtain ⟨C1, x1, x2, x3, E, x5, x6, x7, x8, x9, x10⟩ := g17_c R w hb he h4
  have H := R.2.2.1
  have wE1 := w.2.1
  have w1 := wE1.1
  have rg := R.2.2.2.2.2.2.2.2
  obtain ⟨n1, n2, n3, n4, n5, n6⟩ := CR.ne R w he (i := 0) (by decide)
  obtain ⟨m1, m2, m3, m4, m5, m6⟩ := CR.ne R w he (i := 3) (by decide)
  rw [Nat.add_zero] at n1 n2 n3 n4 n5 n6
  have top := R.top
  have ge : ∀ x, gE (σ.2.1.set e (eOw (gE σ.2.1 e), ePa (gE σ.2.1 e), eGv (gE σ.2.1 e), eNm (gE σ.2.1 e), ePs (gE σ.2.1 e) ++ [σ.1], eCm (gE σ.2.1 e))) x = if x = e then (eOw (gE σ.2.1 e), ePa (gE σ.2.1 e), eGv (gE σ.2.1 e), eNm (gE σ.2.1 e), ePs (gE σ.2.1 e) ++ [σ.1], eCm (gE σ.2.1 e)) else gE σ.2.1 x := fun x => gE_set he
  have k1 : ∀ f, f < σ.2.1.length → ∀ i, i < 4 → g.1 f + i < C.1 := fun f hf i hi => by
    have hr := rg.1 f hf i hi
    exact R.lt (by rw [hr]; omega)
  have k2 : ∀ f, f < σ.2.1.length → ∀ k, k < (ePs (gE σ.2.1 f)).length → ∀ i, i < 2 → g.2.1 f k + i < C.1 := fun f hf k hk i hi => by
    have hr := rg.2.1 f hf k hk i hi
    have := (wE1.2 f hf).2.2.2.2.2.2.1
    exact R.lt (by rw [hr]; omega)
  have k3 : ∀ f, f < σ.2.1.length → cR C (g.1 f) 7 ≠ none → ∀ i, i < 150 → g.2.2.1 f + i < C.1 := fun f hf hc i hi => by
    have hr := rg.2.2.1 f hf hc i hi
    exact R.lt (by rw [hr]; omega)
  have k4 : ∀ i, i < 150 → g.2.2.2.1 + i < C.1 := fun i hi => by
    have hr := rg.2.2.2.1 i hi
    exact R.lt (by rw [hr]; omega)
  obtain ⟨r1, r2, r3, r4, r5, r6, r7, r8⟩ := CR_rest R E (fun x hx => ⟨by omega, n1 x hx, m1 x hx⟩) (fun j hj => ⟨k4 j hj, n5 j hj, m5 j hj⟩)
  refine ⟨C1, x1, ⟨r1, r2, ⟨⟨?_, ?_, ?_⟩, fun i j hi hj => ?_, fun f hf => ?_⟩, r3, r4, r5, r6, r7, ?_⟩, r8, x2, x3⟩
  · rw [(E 3 ⟨by omega, n1 3 (by decide), m1 3 (by decide)⟩).2.1]
    exact H.1.1
  · rw [(E 4 ⟨by omega, n1 4 (by decide), m1 4 (by decide)⟩).2.2]
    exact H.1.2.1
  · rw [List.length_set, (E 3 ⟨by omega, n1 3 (by decide), m1 3 (by decide)⟩).1]
    exact H.1.2.2
  · rw [List.length_set] at hi hj
    exact H.2.1 i j hi hj
  · rw [List.length_set] at hf
    rw [ge]
    refine ⟨by rw [(E 4 ⟨by omega, n1 4 (by decide), m1 4 (by decide)⟩).2.1]; exact (H.2.2 f hf).1, ?_⟩
    by_cases hfe : f = e
    · subst hfe
      rw [if_pos rfl]
      show cEn C1 g.1 (gPar C f (ePs (gE σ.2.1 f)).length g).2.1 g.2.2.1 f (_, _, _, _, _, _)
      obtain ⟨_, ⟨a1, a2, a3⟩, ⟨b1, b2, b3⟩, ⟨c1, c2, c3, c4⟩, d, ff, gg⟩ := H.2.2 f hf
      have P12 : ∀ i, (i = 1 ∨ i = 2) → g.1 f + i < C.1 ∧ g.1 f + i ≠ g.1 f ∧ g.1 f + i ≠ g.1 f + 3 := fun i hi => ⟨k1 f hf i (by omega), by omega, by omega⟩
      refine ⟨⟨by rw [x7, if_neg (by decide)]; exact a1, by rw [x6]; exact a2, a3.kp E (P12 1 (Or.inl rfl)) (P12 2 (Or.inr rfl))⟩, ⟨by rw [x6]; exact b1, by rw [x6]; exact b2, by rw [x7, if_neg (by decide)]; exact b3⟩, ⟨by rw [x6]; exact c1, by rw [x9]; exact c2, ?_, fun k hk => ?_⟩, by rw [x7, if_neg (by decide)]; exact d, ?_, fun c hc => ?_⟩
      · rw [x7, if_pos rfl]
        show _ = nI (ePs (gE σ.2.1 f) ++ [σ.1]).length
        simp
      · have hk : k < (ePs (gE σ.2.1 f) ++ [σ.1]).length := hk
        simp only [List.length_append, List.length_singleton] at hk
        show cR C1 (g.1 f + 3) k = some (if f = f ∧ k = (ePs (gE σ.2.1 f)).length then C.1 else g.2.1 f k) ∧ TX C1 (if f = f ∧ k = (ePs (gE σ.2.1 f)).length then C.1 else g.2.1 f k) ((if f = f ∧ k = (ePs (gE σ.2.1 f)).length then C.1 else g.2.1 f k) + 1) 10 ((ePs (gE σ.2.1 f) ++ [σ.1]).getD k [])
        rw [x8, gD_app hk]
        by_cases hkl : k = (ePs (gE σ.2.1 f)).length
        · rw [if_pos hkl, if_pos ⟨rfl, hkl⟩, if_pos hkl]
          exact ⟨rfl, x5⟩
        · rw [if_neg hkl, if_neg (fun h9 => hkl h9.2), if_neg hkl]
          obtain ⟨y1, y2⟩ := c4 k (by omega)
          refine ⟨y1, y2.kp E ⟨?_, ?_, ?_⟩ ⟨k2 f hf k (by omega) 1 (by decide), n3 f hf k (by omega) 1 (by decide), m3 f hf k (by omega) 1 (by decide)⟩⟩
          · have := k2 f hf k (by omega) 0 (by decide)
            rwa [Nat.add_zero] at this
          · have := n3 f hf k (by omega) 0 (by decide)
            rwa [Nat.add_zero] at this
          · have := m3 f hf k (by omega) 0 (by decide)
            rwa [Nat.add_zero] at this
      · rcases ff with ff | ff
        · exact Or.inl ⟨by rw [x6]; exact ff.1, ff.2⟩
        · have hne : cR C (g.1 f) 7 ≠ none := by rw [ff.1]; simp
          exact Or.inr ⟨by rw [x6]; exact ff.1, ff.2.kp E fun i hi => ⟨k3 f hf hne i hi, n4 f hf hne i hi, m4 f hf hne i hi⟩⟩
      · obtain ⟨y1, y2, y3⟩ := gg c hc
        have hne : cR C (g.1 f) 7 ≠ none := by rw [y1]; simp
        have hP : ∀ i, i < 150 → g.2.2.1 f + i < C.1 ∧ g.2.2.1 f + i ≠ g.1 f ∧ g.2.2.1 f + i ≠ g.1 f + 3 := fun i hi => ⟨k3 f hf hne i hi, n4 f hf hne i hi, m4 f hf hne i hi⟩
        have hP0 := hP 0 (by decide)
        rw [Nat.add_zero] at hP0
        exact ⟨by rw [x6]; exact y1, by rw [(E _ hP0).2.1]; exact y2, y3.kp ((wE1.2 f hf).2.2.2.2.2.2.2.2 c hc) E hP⟩
    · rw [if_neg hfe]
      refine cEn_pa ((H.2.2 f hf).2.kp (wE1.2 f hf) E (fun i hi => ⟨k1 f hf i hi, n2 f hf hfe i hi, m2 f hf hfe i hi⟩) (fun k hk i hi => ⟨k2 f hf k hk i hi, n3 f hf k hk i hi, m3 f hf k hk i hi⟩) (fun hc i hi => ⟨k3 f hf hc i hi, n4 f hf hc i hi, m4 f hf hc i hi⟩)) fun k hk => ?_
      show (if f = e ∧ k = _ then C.1 else g.2.1 f k) = g.2.1 f k
      rw [if_neg fun h9 => hfe h9.1]
  · have rr : ∀ a, a < C.1 → (gPar C e (ePs (gE σ.2.1 e)).length g).2.2.2.2.2.2 a = g.2.2.2.2.2.2 a := fun a ha => by show (if _ then _ else _) = _; rw [if_neg (by omega)]
    have e7 : ∀ f, f < σ.2.1.length → cR C1 (g.1 f) 7 = cR C (g.1 f) 7 := fun f hf => by
      by_cases hfe : f = e
      · rw [hfe, x6]
      · have h0 := n2 f hf hfe 0 (by decide)
        have h3 := m2 f hf hfe 0 (by decide)
        have hc := k1 f hf 0 (by decide)
        rw [Nat.add_zero] at h0 h3 hc
        rw [(E _ ⟨hc, h0, h3⟩).2.1]
    refine ⟨fun f hf i hi => ?_, fun f hf k hk i hi => ?_, fun f hf hc i hi => ?_, fun i hi => ?_, fun a ha => ?_, fun a ha => ?_⟩
    · rw [List.length_set] at hf
      show (gPar C e (ePs (gE σ.2.1 e)).length g).2.2.2.2.2.2 (g.1 f + i) = _
      rw [rr _ (k1 f hf i hi)]
      exact rg.1 f hf i hi
    · rw [List.length_set] at hf
      rw [ge] at hk
      show (gPar C e (ePs (gE σ.2.1 e)).length g).2.2.2.2.2.2 ((if f = e ∧ k = (ePs (gE σ.2.1 e)).length then C.1 else g.2.1 f k) + i) = _
      by_cases hfk : f = e ∧ k = (ePs (gE σ.2.1 e)).length
      · rw [if_pos hfk]
        show (if _ then _ else _) = _
        rw [if_pos ⟨by omega, by omega⟩, hfk.1, hfk.2]
      · rw [if_neg hfk]
        have hk2 : k < (ePs (gE σ.2.1 f)).length := by
          by_cases hfe : f = e
          · rw [if_pos hfe] at hk
            have hk : k < (ePs (gE σ.2.1 e) ++ [σ.1]).length := hk
            simp only [List.length_append, List.length_singleton] at hk
            have : k ≠ (ePs (gE σ.2.1 e)).length := fun h9 => hfk ⟨hfe, h9⟩
            rw [hfe]
            omega
          · rw [if_neg hfe] at hk
            exact hk
        rw [rr _ (k2 f hf k hk2 i hi)]
        exact rg.2.1 f hf k hk2 i hi
    · rw [List.length_set] at hf
      have hc : cR C1 (g.1 f) 7 ≠ none := hc
      rw [e7 f hf] at hc
      show (gPar C e (ePs (gE σ.2.1 e)).length g).2.2.2.2.2.2 (g.2.2.1 f + i) = _
      rw [rr _ (k3 f hf hc i hi)]
      exact rg.2.2.1 f hf hc i hi
    · show (gPar C e (ePs (gE σ.2.1 e)).length g).2.2.2.2.2.2 (g.2.2.2.1 + i) = _
      rw [rr _ (k4 i hi)]
      exact rg.2.2.2.1 i hi
    · show (if _ then _ else _) = _
      rw [if_neg (by omega)]
      exact rg.2.2.2.2.1 a (by omega)
    · show (if _ then _ else _) = _
      rw [if_neg (by omega)]
      exact rg.2.2.2.2.2 a ha
/-- parameter -/
theorem c_param (R : CR C σ g) (w : wSt σ) (a : Nat → Int32) : ∃ C' g', g116 0 (a 1) C = some ((stp σ 4 a).1, C') ∧ CR C' (stp σ 4 a).2 g' ∧ Kp C C' ∧ wSt (stp σ 4 a).2 := by
  have H := R.2.2.1
  have wE1 := w.2.1
  show ∃ C' g', g116 0 (a 1) C = some ((sPar σ (a 1)).1, C') ∧ CR C' (sPar σ (a 1)).2 g' ∧ Kp C C' ∧ wSt (sPar σ (a 1)).2
  unfold g116 sPar
  rw [R.1.2.1]
  simp only [bS]
  rw [g83_s H wE1]
  simp only [bS]
  have bad : ∀ (o : Option Nat), ∃ C' g', gj116_64 0 (a 1) o (-1) C = some ((-1, (([], σ.2) : St)).1, C') ∧ CR C' ([], σ.2) g' ∧ Kp C C' ∧ wSt ([], σ.2) := fun o => by
    unfold gj116_64
    rw [R.1.1]
    simp only [bS]
    obtain ⟨D, d1, d2, d3, d4, d5⟩ := c_cut0 R w
    rw [d1]
    exact ⟨D, g, rfl, d2, d3, d5⟩
  cases he : eIx σ.2.1 (a 1) with
  | none =>
    rw [Option.map_none, if_pos (Eq.refl none)]
    exact bad _
  | some e =>
    obtain ⟨h1, _⟩ := eIx_lt he
    rw [Option.map_some, if_neg (by simp)]
    simp only [bS]
    rw [g12_s H h1]
    simp only [bS, bZ_0]
    cases hty : isTy σ.2.1 e with
    | true =>
      rw [if_neg (show ¬ true = false by decide), if_neg (fun h9 => by have := h9.1; cases this)]
      exact bad _
    | false =>
      rw [if_pos (Eq.refl false), R.1.1]
      simp only [bS]
      have e8 : g108 1 97 122 C = some (bZ (nmWh σ.1 false), C) := by
        have := g108_s R.2.1 (lo := 97) (hi := 122) (by decide) (by decide)
        rw [show (97 : Int32) = nI 97 from rfl, show (122 : Int32) = nI 122 from rfl, this]
        rfl
      rw [e8]
      simp only [bS, bZ_0]
      cases hn : nmWh σ.1 false with
      | false =>
        rw [if_pos (Eq.refl false), if_neg (fun h9 => by have := h9.2.1; cases this)]
        exact bad _
      | true =>
        rw [if_neg (show ¬ true = false by decide), R.1.1]
        simp only [bS]
        rw [R.2.1.2.1, show (0 : Int32) = nI 0 from rfl, g16_s H wE1 R.2.1 (by decide) h1 (Nat.zero_le _) (Nat.le_refl _), cut_all]
        simp only [bS]
        cases ha : (ePs (gE σ.2.1 e)).any fun a => decide (a = σ.1) with
        | true =>
          rw [if_neg (show ¬ bZ true = nI 0 from bZt), if_neg (fun h9 => by have := h9.2.2; cases this)]
          exact bad _
        | false =>
          rw [if_pos (show bZ false = nI 0 from rfl), if_pos ⟨trivial, trivial, rfl⟩, R.1.1]
          have h4 := (wE1.2 e h1).2.2.2.2.2.2.1
          have wn := nmWh_ok hn
          have hb := (nmOK_NB wn.1).2.1
          by_cases hf : (ePs (gE σ.2.1 e)).length = 4
          · rw [if_pos hf]
            obtain ⟨_, _, _, ⟨c1, c2, c3, c4⟩, _⟩ := H.2.2 e h1
            have e17 : g17 (g.1 e) (some 1) C = some (-3, C) := by
              unfold g17
              rw [c1]
              simp only [bS]
              rw [if_neg]
              rw [c3, c2, hf]
              decide
            rw [e17]
            simp only [bS]
            unfold gj116_64
            rw [R.1.1]
            simp only [bS]
            obtain ⟨D, d1, d2, d3, d4, d5⟩ := c_cut0 R w
            rw [d1]
            exact ⟨D, g, rfl, d2, d3, d5⟩
          · rw [if_neg hf]
            obtain ⟨D, d1, d2, d3, d4, d5⟩ := g17_s R w hb h1 (by omega)
            rw [d1]
            simp only [bS]
            unfold gj116_64
            rw [d2.1.1]
            simp only [bS]
            have w2 : wSt (σ.1, σ.2.1.set e (eOw (gE σ.2.1 e), ePa (gE σ.2.1 e), eGv (gE σ.2.1 e), eNm (gE σ.2.1 e), ePs (gE σ.2.1 e) ++ [σ.1], eCm (gE σ.2.1 e)), σ.2.2) := ⟨w.1, w_par wE1 h1 wn.1 (by omega), w.2.2.1, ⟨w.2.2.2.1.1, fun c hc => by show c < (σ.2.1.set e _).length; rw [List.length_set]; exact w.2.2.2.1.2 c hc⟩, w.2.2.2.2⟩
            obtain ⟨D2, f1, f2, f3, f4, f5⟩ := c_cut0 d2 w2
            rw [f1]
            exact ⟨D2, _, rfl, f2, Kp.of d3 d4 d5 ⟨by decide, by decide⟩ f3 f4, f5⟩
end PCPAR
