section PCRP
variable {C C' C0 D V : xC} {σ : St} {g : Gh} {es : List En} {pl : List (Nat × Nat)} {Q : Nat → Prop}
/-- a planned block's comment -/
theorem vI_c (w : wSt σ) {q : Nat × Nat} (h : vI σ.2.1 q) : eCm (gE σ.2.1 q.1) = some (gC σ.2.1 q.1) ∧ (gC σ.2.1 q.1).2.1.length ≤ 24 ∧ (gC σ.2.1 q.1).2.2.length ≤ 120 ∧ bFi ((gC σ.2.1 q.1).2.1.getD q.2 bkD) + bMa ((gC σ.2.1 q.1).2.1.getD q.2 bkD) ≤ (gC σ.2.1 q.1).2.2.length := by
  obtain ⟨h1, h2, _⟩ := h
  cases hc : eCm (gE σ.2.1 q.1) with
  | none =>
    have : gC σ.2.1 q.1 = ([], [], []) := by unfold gC; rw [hc]; rfl
    rw [this] at h2
    exact absurd h2 (Nat.not_lt_zero _)
  | some m =>
    have gc : gC σ.2.1 q.1 = m := by unfold gC; rw [hc]; rfl
    rw [gc] at h2 ⊢
    have wc := (w.2.1.2 q.1 h1).2.2.2.2.2.2.2.2 m hc
    exact ⟨rfl, wc.2.1, wc.2.2.1, (wc.2.2.2.1 _ (gD_mem h2)).2.2.2.1⟩
theorem vI_r (R : CR C0 σ g) (w : wSt σ) {q : Nat × Nat} (h : vI σ.2.1 q) {i : Nat} (hi : i < 150) : g.2.2.2.2.2.2 (g.2.2.1 q.1 + i) = 300 + q.1 := by
  have hm := (vI_c w h).1
  exact R.2.2.2.2.2.2.2.2.2.2.1 q.1 h.1 (by rw [((R.2.2.1.2.2 q.1 h.1).2.2.2.2.2.2 _ hm).1]; simp) i hi
/-- what is resolved stays so -/
theorem lkOK_p (R : CR C0 σ g) (w : wSt σ) {q q0 : Nat × Nat} (hq : vI σ.2.1 q) (h0 : vI σ.2.1 q0) (L : lkOK D g σ.2.1 q0) (E : lkE (zB (g.2.2.1 q.1) q.2 (bFi ((gC σ.2.1 q.1).2.1.getD q.2 bkD)) (bMa ((gC σ.2.1 q.1).2.1.getD q.2 bkD))) (fun _ => True) D V) (K : lkOK V g σ.2.1 q) : lkOK V g σ.2.1 q0 := by
  obtain ⟨e, k⟩ := q
  obtain ⟨e0, k0⟩ := q0
  obtain ⟨_, c1, c2, c3⟩ := vI_c w hq
  obtain ⟨_, d1, d2, d3⟩ := vI_c w h0
  have hk := hq.2.1
  have hk0 := h0.2.1
  dsimp only at c1 c2 c3 d1 d2 d3 hk hk0
  refine ⟨?_, fun i hi hp => ?_⟩
  · rcases (E (g.2.2.1 e0 + 4 + k0) trivial).2.1 9 with hz | he
    · rcases hz with hz | ⟨_, _, _, hz⟩
      · have h1 := hz.1
        dsimp only at h1
        have r1 := vI_r R w hq (i := 4 + k) (by omega)
        have r2 := vI_r R w h0 (i := 4 + k0) (by omega)
        dsimp only at r1 r2
        rw [show g.2.2.1 e0 + (4 + k0) = g.2.2.1 e + (4 + k) by omega, r1] at r2
        have he : e0 = e := by omega
        subst he
        have hke : k0 = k := by omega
        subst hke
        exact K.1
      · cases hz
    · show cR V (g.2.2.1 e0 + 4 + k0) 9 = _
      rw [he]
      exact L.1
  · dsimp only at hi hp ⊢
    rcases (E (g.2.2.1 e0 + 30 + (bFi ((gC σ.2.1 e0).2.1.getD k0 bkD) + i)) trivial).2.1 7 with hz | he
    · rcases hz with hz | ⟨j, j1, j2, _⟩
      · cases hz.2
      · dsimp only at j1 j2
        have r1 := vI_r R w hq (i := 30 + (bFi ((gC σ.2.1 e).2.1.getD k bkD) + j)) (by omega)
        have r2 := vI_r R w h0 (i := 30 + (bFi ((gC σ.2.1 e0).2.1.getD k0 bkD) + i)) (by omega)
        dsimp only at r1 r2
        rw [show g.2.2.1 e0 + (30 + (bFi ((gC σ.2.1 e0).2.1.getD k0 bkD) + i)) = g.2.2.1 e + (30 + (bFi ((gC σ.2.1 e).2.1.getD k bkD) + j)) by omega, r1] at r2
        have he : e0 = e := by omega
        subst he
        have hx : bFi ((gC σ.2.1 e0).2.1.getD k0 bkD) + i = bFi ((gC σ.2.1 e0).2.1.getD k bkD) + j := by omega
        rw [hx] at hp ⊢
        exact K.2 j j1 hp
    · rw [he]
      exact L.2 i hi hp
/-- the links of the plan are resolved -/
theorem g23_s (R : CR C0 σ g) (w : wSt σ) (hQ : ∀ a, g.2.2.2.2.2.2 a < 1000 → Q a) (h3 : Q 3) (h4 : Q 4) (E : lkE (lkZ C0 g σ.2.1.length) Q C0 C) (h0 : cR C 8 0 = some 9) (hK : (cK C 9).2 = 960) (P : plC C g pl) (hl : pl.length ≤ 960) (hv : ∀ q ∈ pl, vI σ.2.1 q) : ∃ C', g23 8 (some 3) C = some C' ∧ lkE (lkZ C0 g σ.2.1.length) Q C0 C' ∧ sm C C' ∧ eqO (fun a => a < 18 ∨ (168 ≤ a ∧ a < 224)) C C' ∧ ∀ q ∈ pl, lkOK C' g σ.2.1 q := by
  have rg := R.2.2.2.2.2.2.2.2
  have key : ∀ k n i (D : xC), i + k = pl.length → k < n → lkE (lkZ C0 g σ.2.1.length) Q C0 D → eqO (fun a => a < 18 ∨ (168 ≤ a ∧ a < 224)) C D → (∀ j, j < i → lkOK D g σ.2.1 (pl.getD j (0, 0))) → ∃ C', gl23_2 n 8 (some 3) (nI i) D = some C' ∧ lkE (lkZ C0 g σ.2.1.length) Q C0 C' ∧ sm D C' ∧ eqO (fun a => a < 18 ∨ (168 ≤ a ∧ a < 224)) C C' ∧ ∀ j, j < pl.length → lkOK C' g σ.2.1 (pl.getD j (0, 0)) := by
    intro k
    induction k with
    | zero =>
      intro n i D hi hn ED SD L
      obtain ⟨n, rfl⟩ : ∃ x, n = x + 1 := ⟨n - 1, by omega⟩
      rw [gl23_2]
      dsimp only
      rw [(SD 8 (by decide)).1, P.1, if_pos (nI_le (by omega) (by omega))]
      exact ⟨D, rfl, ED, sm.rfl', SD, fun j hj => L j (by omega)⟩
    | succ k ih =>
      intro n i D hi hn ED SD L
      obtain ⟨n, rfl⟩ : ∃ x, n = x + 1 := ⟨n - 1, by omega⟩
      have hil : i < pl.length := by omega
      have hq := hv _ (gD_mem (l := pl) (i := i) (d := (0, 0)) hil)
      obtain ⟨hm, c1, c2, c3⟩ := vI_c w hq
      have p9 := P.2 i hil
      obtain ⟨q, hqe⟩ : ∃ q, pl.getD i (0, 0) = q := ⟨_, rfl⟩
      rw [hqe] at hq hm c1 c2 c3 p9
      have HD := cE_lk R w ED hQ h3 h4
      obtain ⟨x1, x2, x3⟩ := (HD.2.2 q.1 hq.1).2.2.2.2.2.2 _ hm
      have bk := x3.2.1.2 q.2 hq.2.1
      obtain ⟨V, v1, v2, v3, v4, v5⟩ := g94_s R w hQ h3 h4 ED hq.1 hm hq.2.1 rfl
      have KV : lkOK V g σ.2.1 q := ⟨v4, v5⟩
      have hne : cR C0 (g.1 q.1) 7 ≠ none := by rw [((R.2.2.1.2.2 q.1 hq.1).2.2.2.2.2.2 _ hm).1]; simp
      have hk := hq.2.1
      have zz : ∀ a j, zB (g.2.2.1 q.1) q.2 (bFi ((gC σ.2.1 q.1).2.1.getD q.2 bkD)) (bMa ((gC σ.2.1 q.1).2.1.getD q.2 bkD)) a j → lkZ C0 g σ.2.1.length a j := fun a j hz => by
        refine ⟨q.1, hq.1, hne, ?_⟩
        rcases hz with hz | ⟨x, i1, i2, i3⟩
        · exact Or.inl ⟨by omega, by omega, hz.2⟩
        · exact Or.inr ⟨by omega, by omega, i3⟩
      have SV : eqO (fun a => a < 18 ∨ (168 ≤ a ∧ a < 224)) D V := v2.eq fun a ha => ⟨trivial, fun j hz => by
        obtain ⟨f, f1, _, f2, _⟩ := lkZ_r R (zz a j hz)
        rw [rg.2.2.2.2.2 a ha] at f2
        have := w.2.1.1
        omega⟩
      rw [gl23_2]
      dsimp only
      rw [(SD 8 (by decide)).1, P.1, if_neg (nI_ge (by omega) (by omega)), (SD 8 (by decide)).2.1, h0]
      simp only [bS]
      rw [cLR_n (n := 960) (by omega) (by rw [(SD 9 (by decide)).2.2]; exact hK) (by decide), (SD 9 (by decide)).2.1, p9]
      simp only [bS]
      rw [if_neg (show ¬ some (g.2.2.1 q.1 + 4 + q.2) = none by simp), bk.1, if_neg (show ¬ some (g.2.2.1 q.1) = none by simp), v1]
      simp only [bS]
      unfold gj23_37
      rw [nI_1]
      obtain ⟨W, w1, w2, w3, w4, w5⟩ := ih n (i + 1) V (by omega) (by omega) (ED.tr (v2.mono zz fun _ _ => trivial)) (SD.tr SV) (fun j hj => by
        by_cases hji : j = i
        · rw [hji, hqe]
          exact KV
        · exact lkOK_p R w hq (hv _ (gD_mem (l := pl) (i := j) (d := (0, 0)) (by omega))) (L j (by omega)) v2 KV)
      exact ⟨W, w1, w2, v3.tr w3, w4, w5⟩
  obtain ⟨X, x1, x2, x3, x4, x5⟩ := key pl.length xFuel 0 C (by omega) (pFuel _ (by omega)) E eqO.rfl' (fun j hj => absurd hj (Nat.not_lt_zero _))
  refine ⟨X, x1, x2, x3, x4, fun q hq => ?_⟩
  obtain ⟨j, hj, rfl⟩ := List.mem_iff_getElem.mp hq
  have := x5 j hj
  rw [List.getD_eq_getElem?_getD, List.getElem?_eq_getElem hj] at this
  exact this
end PCRP
