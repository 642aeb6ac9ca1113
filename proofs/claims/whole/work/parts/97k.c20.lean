section PC20
variable {C C' C0 C1 C2 : xC} {σ : St} {g : Gh} {es : List En} {pl : List (Nat × Nat)}
/-- the plan: entries, numbers of blocks -/
def plC (C : xC) (g : Gh) (pl : List (Nat × Nat)) : Prop := cI C 8 1 = nI pl.length ∧ ∀ i, i < pl.length → cR C 9 i = some (g.2.2.1 (pl.getD i (0, 0)).1 + 4 + (pl.getD i (0, 0)).2)
/-- the frame of planning -/
def pnE (C C' : xC) : Prop := eqO (fun a => a ∉ [8, 9]) C C' ∧ (∀ k, cR C' 8 k = cR C 8 k) ∧ cK C' 9 = cK C 9 ∧ cK C' 8 = cK C 8 ∧ sm C C'
theorem pnE.rfl' : pnE C C := ⟨eqO.rfl', fun _ => rfl, rfl, rfl, sm.rfl'⟩
theorem pnE.tr (a : pnE C C1) (b : pnE C1 C2) : pnE C C2 := ⟨a.1.tr b.1, fun k => (b.2.1 k).trans (a.2.1 k), b.2.2.1.trans a.2.2.1, b.2.2.2.1.trans a.2.2.2.1, a.2.2.2.2.tr b.2.2.2.2⟩
/-- a block is planned -/
theorem g22_s (h0 : cR C 8 0 = some 9) (hK : (cK C 9).2 = 960) (P : plC C g pl) (hl : pl.length < 960) (e k : Nat) : ∃ C', g22 8 (some (g.2.2.1 e + 4 + k)) C = some C' ∧ plC C' g (pl ++ [(e, k)]) ∧ pnE C C' := by
  unfold g22 gj22_32
  rw [h0]
  simp only [bS]
  rw [hK, P.1, if_neg (show ¬ Int32.ofNat 960 ≤ nI pl.length from nI_ge (b := 960) hl (by decide)), cSR_n (n := 960) hl hK (by decide)]
  simp only [bS]
  rw [uR_i, P.1, nI_1]
  refine ⟨_, rfl, ⟨by rw [uI_e]; simp, fun i hi => ?_⟩, (eqO.uR (fun h9 => h9 (by simp))).tr (eqO.uI (fun h9 => h9 (by simp))), fun j => by rw [uI_r, uR_n (by omega)], by rw [uI_K, uR_K], by rw [uI_K, uR_K], rfl, rfl⟩
  have hi : i < pl.length + 1 := by simpa using hi
  rw [gD_app hi, uI_r]
  by_cases h : i = pl.length
  · rw [if_pos h, h, uR_e]
  · rw [if_neg h, uR_n (by omega)]
    exact P.2 i (by omega)
/-- the story is planned -/
theorem gr20_s (R : CR C0 σ g) (w : wSt σ) : ∀ n N x (o : Option Nat) (C : xC) (pl : List (Nat × Nat)), n + x = 41 → n < N → pnE C0 C → plC C g pl → (∀ e, o = some e → e < σ.2.1.length ∧ (eCm (gE σ.2.1 e)).isSome = true) → pl.length + (stI σ.2.1 n o).length ≤ 960 → ∃ C', gr20 N 8 (some 3) (o.map g.1) (nI x) C = some C' ∧ plC C' g (pl ++ stI σ.2.1 n o) ∧ pnE C0 C' := by
  have ax := R.2.2.2.2.2.2.1
  have cE0 : ∀ D : xC, pnE C0 D → cE D g.1 g.2.1 g.2.2.1 σ.2.1 := fun D ED => (CR_static R w ED.1 (by decide) (by decide)).1
  intro n
  induction n with
  | zero =>
    intro N x o C pl hx hN E P ho hl
    obtain ⟨N, rfl⟩ : ∃ k, N = k + 1 := ⟨N - 1, by omega⟩
    rw [gr20]
    dsimp only
    unfold gj20_17
    rw [show stI σ.2.1 0 o = [] from rfl, List.append_nil]
    refine ⟨C, ?_, P, E⟩
    cases o with
    | none => rw [if_pos (show Option.map g.1 none = none from rfl)]
    | some e =>
      rw [Option.map_some, if_neg (show ¬ some (g.1 e) = none by simp)]
      simp only [bS]
      by_cases h7 : cR C (g.1 e) 7 = none
      · rw [if_pos h7]
      · rw [if_neg h7, if_neg (show ¬ nI x ≤ 40 from nI_ge (a := 40) (by omega) (by omega))]
  | succ n ih =>
    intro N x o C pl hx hN E P ho hl
    obtain ⟨N, rfl⟩ : ∃ k, N = k + 1 := ⟨N - 1, by omega⟩
    rw [gr20]
    dsimp only
    cases o with
    | none =>
      rw [if_pos (show Option.map g.1 none = none from rfl)]
      exact ⟨C, rfl, by rw [show stI σ.2.1 (n + 1) none = [] from rfl, List.append_nil]; exact P, E⟩
    | some e =>
      obtain ⟨he, hc⟩ := ho e rfl
      obtain ⟨m, hm⟩ := Option.isSome_iff_exists.mp hc
      have gc : gC σ.2.1 e = m := by unfold gC; rw [hm]; rfl
      have wc := (w.2.1.2 e he).2.2.2.2.2.2.2.2 m hm
      obtain ⟨wt, w24, w120, wB1, _⟩ := wc
      have st : ∀ D : xC, pnE C0 D → cR D (g.1 e) 7 = some (g.2.2.1 e) ∧ cRd D (g.2.2.1 e) m.2 ∧ cSh D (g.2.2.1 e) := fun D ED => by
        have HD := cE0 D ED
        obtain ⟨x1, x2, x3⟩ := (HD.2.2 e he).2.2.2.2.2.2 m hm
        rcases (HD.2.2 e he).2.2.2.2.2.1 with xs | xs
        · rw [xs.2] at hm
          cases hm
        · exact ⟨x1, x3.2, xs.2⟩
      rw [Option.map_some, if_neg (show ¬ some (g.1 e) = none by simp)]
      simp only [bS]
      rw [(st C E).1, if_neg (show ¬ some (g.2.2.1 e) = none by simp), if_pos (show nI x ≤ 40 from nI_le (b := 40) (by omega) (by decide))]
      have hci : ∀ y, cnt σ.2.1 40 (abv σ.2.1 e) = some y → y < σ.2.1.length ∧ (eCm (gE σ.2.1 y)).isSome = true := fun y hy => cnt_lt w.2.1 40 (abv σ.2.1 e) y (fun a ha => (abv_lt w.2.1 he ha).1) hy
      have key : ∀ q M i (D : xC) (pl : List (Nat × Nat)), i + q = m.2.1.length → q < M → pnE C0 D → plC D g pl → pl.length + ((List.range' i q).flatMap (gX σ.2.1 (stI σ.2.1 n (cnt σ.2.1 40 (abv σ.2.1 e))) e)).length ≤ 960 → ∃ C', gl20_27 (gr20 N) M 8 (some 3) (some (g.1 e)) (nI x) (some (g.2.2.1 e)) (nI i) D = some C' ∧ plC C' g (pl ++ (List.range' i q).flatMap (gX σ.2.1 (stI σ.2.1 n (cnt σ.2.1 40 (abv σ.2.1 e))) e)) ∧ pnE C0 C' := by
        intro q
        induction q with
        | zero =>
          intro M i D pl hi hM ED PD hl
          obtain ⟨M, rfl⟩ : ∃ k, M = k + 1 := ⟨M - 1, by omega⟩
          rw [gl20_27]
          dsimp only
          simp only [bS]
          rw [(st D ED).2.1.1.1, if_pos (nI_le (by omega) (by omega))]
          exact ⟨D, rfl, by simpa using PD, ED⟩
        | succ q iq =>
          intro M i D pl hi hM ED PD hl
          obtain ⟨M, rfl⟩ : ∃ k, M = k + 1 := ⟨M - 1, by omega⟩
          obtain ⟨s1, s2, s3⟩ := st D ED
          have hil : i < m.2.1.length := by omega
          have wb := wB1 _ (gD_mem (l := m.2.1) (i := i) (d := bkD) hil)
          have bk := s2.1.2 i hil
          rw [List.range'_succ, List.flatMap_cons, List.length_append] at hl
          rw [List.range'_succ, List.flatMap_cons]
          rw [gl20_27]
          dsimp only
          simp only [bS]
          rw [s2.1.1, if_neg (nI_ge (by omega) (by omega)), g5_s s2 s3 (by omega)]
          simp only [bS]
          rw [if_neg (show ¬ nI i < 0 from nI_pos (by omega)), nI_clamp (by omega), if_pos hil, if_neg (show ¬ some (g.2.2.1 e + 4 + i) = none by simp)]
          simp only [bS]
          rw [bk.2.1]
          have fin : ∀ (V : xC) (A : List (Nat × Nat)), A = gX σ.2.1 (stI σ.2.1 n (cnt σ.2.1 40 (abv σ.2.1 e))) e i → plC V g (pl ++ A) → pnE C0 V → ∃ C', gj20_99 (gr20 N) (gl20_27 (gr20 N) M) 8 (some 3) (some (g.1 e)) (nI x) (some (g.2.2.1 e)) (nI i) (some (g.2.2.1 e + 4 + i)) V = some C' ∧ plC C' g (pl ++ (gX σ.2.1 (stI σ.2.1 n (cnt σ.2.1 40 (abv σ.2.1 e))) e i ++ (List.range' (i + 1) q).flatMap (gX σ.2.1 (stI σ.2.1 n (cnt σ.2.1 40 (abv σ.2.1 e))) e))) ∧ pnE C0 C' := fun V A hA PV EV => by
            unfold gj20_99
            rw [nI_1]
            subst hA
            obtain ⟨W, w1, w2, w3⟩ := iq M (i + 1) V _ (by omega) (by omega) EV PV (by rw [List.length_append]; omega)
            rw [List.append_assoc] at w2
            exact ⟨W, w1, w2, w3⟩
          have gx : gX σ.2.1 (stI σ.2.1 n (cnt σ.2.1 40 (abv σ.2.1 e))) e i = if bSo (m.2.1.getD i bkD) = 7 then stI σ.2.1 n (cnt σ.2.1 40 (abv σ.2.1 e)) else if isTg (bSo (m.2.1.getD i bkD)) = true then [] else [(e, i)] := by
            unfold gX
            rw [gc]
          by_cases h7 : bSo (m.2.1.getD i bkD) = 7
          · rw [if_pos (by rw [h7]; rfl), g92_s (cE0 D ED) w.2.1 he]
            simp only [bS]
            rw [if_pos h7] at gx
            rw [gx] at hl
            obtain ⟨V, v1, v2, v3⟩ := ih N (x + 1) (cnt σ.2.1 40 (abv σ.2.1 e)) D pl (by omega) (by omega) ED PD hci (by omega)
            rw [nI_1, v1]
            simp only [bS]
            exact fin V _ gx.symm v2 v3
          · rw [if_neg (show ¬ _ = (7 : Int32) from nI_ne h7 (by have := wb.1; omega) (by decide))]
            rw [if_neg h7] at gx
            unfold gj20_77
            rw [if_neg (show ¬ some (g.2.2.1 e + 4 + i) = none by simp)]
            simp only [bS]
            rw [bk.2.1, g138_s (by have := wb.1; omega)]
            simp only [bS, bZ_0]
            cases ht : isTg (bSo (m.2.1.getD i bkD)) with
            | true =>
              rw [ht, if_pos rfl] at gx
              rw [if_neg (show ¬ true = false by decide)]
              exact fin D [] gx.symm (by rw [List.append_nil]; exact PD) ED
            | false =>
              rw [ht, if_neg (show ¬ false = true by decide)] at gx
              rw [if_pos (Eq.refl false)]
              rw [gx, List.length_singleton] at hl
              obtain ⟨V, v1, v2, v3⟩ := g22_s (g := g) (by rw [ED.2.1]; exact ax.2.1) (by rw [ED.2.2.1]; exact ax.2.2.1) PD (by omega) e i
              rw [v1]
              simp only [bS]
              exact fin V _ gx.symm v2 (ED.tr v3)
      have hs : stI σ.2.1 (n + 1) (some e) = (List.range' 0 m.2.1.length).flatMap (gX σ.2.1 (stI σ.2.1 n (cnt σ.2.1 40 (abv σ.2.1 e))) e) := by
        rw [stI, gc]
      rw [hs] at hl ⊢
      exact key m.2.1.length xFuel 0 C pl (by omega) (pFuel _ (by omega)) E P hl
end PC20
