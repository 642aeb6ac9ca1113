section PMCO
variable {S : mS} {σ : St}
abbrev cmJ : List Nat := [1, 31, 32, 33, 34, 35, 36, 37, 38, 39, 40, 41, 42, 43]
abbrev cmK : List Nat := [12, 13, 14, 15, 16, 17, 18, 19, 20, 21, 22, 23, 24, 25, 26, 27, 28, 29, 30]
/-- comment -/
theorem m_comment (M : MR S σ) (w : wSt σ) (a : Nat → Int32) : ∃ S', g189 (a 1) S = some ((stp σ 5 a).1, S') ∧ MR S' (stp σ 5 a).2 := by
  obtain ⟨T, H, h33, P, Nn⟩ := id M
  have w1 := w.2.1.1
  have wt := w.1
  have H1 : mEs (sPut S 1 0) σ.2.1 := mEs_put (by decide) H
  show ∃ S', g189 (a 1) S = some ((sCom σ (a 1)).1, S') ∧ MR S' (sCom σ (a 1)).2
  unfold g189 sCom
  simp only [bS]
  rw [g148_s H1 w.2.1]
  simp only [bS]
  cases he : eIx σ.2.1 (a 1) with
  | none =>
    rw [if_pos (show bZ (Option.isSome none) = 0 from bZf)]
    exact ⟨_, rfl, MR_tape M w (df.put (by decide)) mTp_0⟩
  | some e =>
    obtain ⟨hel, hex⟩ := eIx_lt he
    rw [if_neg (show ¬ bZ (Option.isSome (some e)) = 0 from bZt), hex, T.1]
    have hT : ∀ k, k < σ.1.length → tx σ.1 k < 256 ∧ S.2 0 k = nI (tx σ.1 k) := fun k hk => by
      have := T.2.2.2 k hk
      rw [Nat.zero_add] at this
      exact this
    have key := l_fl (fun n i s => gl189_22 n (nI e) (nI σ.1.length) (nI i) s) (fun i s => sSet s 12 (24000 + i) (nI (tx σ.1 i))) (fun s => (sLd s 3 (nI e)).bind fun v_2 => (if v_2 = 0 then gj189_64 (nI e) (nI σ.1.length) (nI σ.1.length) 1 s else gj189_64 (nI e) (nI σ.1.length) (nI σ.1.length) 0 s)) (fun i s => (df [] [12] (sPut S 1 0) s ∧ ∀ x, x < 40 → ag x (sPut S 1 0) s) ∧ ∀ j, j < i → s.2 12 (24000 + j) = nI (tx σ.1 j)) σ.1.length (fun n s hs => ?_) (fun n i s hi hs => ?_) σ.1.length xFuel 0 (sPut S 1 0) (by omega) (pFuel _ (by have := wt.1; omega)) ⟨⟨df.rfl', fun _ _ => ag.rfl'⟩, fun j hj => absurd hj (Nat.not_lt_zero _)⟩
    · rw [show (0 : Int32) = nI 0 from rfl] at key ⊢
      obtain ⟨k1, ⟨k2, k3⟩, k4⟩ := key
      rw [k1]
      generalize fl (fun i s => sSet s 12 (24000 + i) (nI (tx σ.1 i))) 0 σ.1.length (sPut S 1 (nI 0)) = U at k1 k2 k3 k4 ⊢
      have AU : aF U 12 24000 (tx σ.1) σ.1.length := ⟨by rw [show mSz.getD 12 0 = 24600 from rfl]; have := wt.1; omega, by decide, fun i hi => ⟨(hT i hi).1, k4 i hi⟩⟩
      have HU : mEs U σ.2.1 := mEs_ag H1 w.2.1 (k2.1 2 (by simp)) fun x hx => k3 x (by omega)
      rw [ld_3 (by omega), (HU.2 e hel).1.1]
      simp only [bS]
      have e1 : (if bZ (eOw (gE σ.2.1 e)).isNone = nI 0 then gj189_64 (nI e) (nI σ.1.length) (nI σ.1.length) 1 U else gj189_64 (nI e) (nI σ.1.length) (nI σ.1.length) (nI 0) U) = gj189_64 (nI e) (nI σ.1.length) (nI σ.1.length) (bZ (!isTy σ.2.1 e)) U := by
        unfold isTy
        cases (eOw (gE σ.2.1 e)).isNone with
        | true =>
          rw [if_neg (show ¬ bZ true = nI 0 by decide)]
          exact Eq.refl _
        | false =>
          rw [if_pos (show bZ false = nI 0 by decide)]
          exact Eq.refl _
      rw [e1]
      generalize (!isTy σ.2.1 e) = mb
      unfold gj189_64
      rw [if_pos bZ_p]
      simp only [bS]
      obtain ⟨V, v1, v2, v3⟩ := g177_s (S := sPut U 34 (bZ mb)) (bs := σ.1) (mb := mb) AU rfl
      rw [v1]
      simp only [bS]
      have D1 : df cmJ cmK S U := (df.put (by decide)).tr (k2.mono (fun j hj => by cases hj) (by decide))
      have D2 : df cmJ cmK S (sPut V 33 (V.1 31)) := ((D1.tr (df.put (by decide))).tr (v2.1.mono (by decide) (by decide))).tr (df.put (by decide))
      have G2 : ∀ x, x < 40 → ag x S (sPut V 33 (V.1 31)) := fun x hx => (ag.put.tr (k3 x hx)).tr ((ag.put.tr (v2.2 x hx)).tr ag.put)
      have A2 : aF (sPut V 33 (V.1 31)) 12 24000 (tx σ.1) σ.1.length := v2.aF AU
      have q31 : (sPut V 33 (V.1 31)).1 31 = V.1 31 := rfl
      have q32 : (sPut V 33 (V.1 31)).1 32 = V.1 32 := rfl
      have q33 : (sPut V 33 (V.1 31)).1 33 = V.1 31 := rfl
      rw [q31, q32]
      have mTp' : ∀ W : mS, df cmJ cmK S W → W.1 1 = 0 → mTp W [] := fun W _ h1 => ⟨h1, by show 0 ≤ 600; decide, by show 600 < 30000; decide, fun i hi => absurd hi (Nat.not_lt_zero _)⟩
      have z1 : (sPut V 33 (V.1 31)).1 1 = 0 := by
        show V.1 1 = 0
        rw [v2.1.1 1 (by decide)]
        show U.1 1 = 0
        rw [k2.1 1 (by simp)]
        rfl
      cases hr : rdC σ.1 mb with
      | mk r o =>
        rw [hr] at v3
        cases o with
        | none =>
          obtain ⟨v4, v5⟩ := v3
          have wr := rdC_w (bs := σ.1) (mb := mb) (by rw [hr])
          rw [hr] at wr
          dsimp only at wr
          rw [v5] at D2 G2 A2 q33 z1 ⊢
          rw [if_pos (by decide)]
          have M4 : mRd (sPut V 33 0) 40 r := v4
          obtain ⟨W, x1, x2, x3⟩ := g188_s (show e < 40 by omega) A2 M4 wr.1 wr.2.1
          rw [x1]
          simp only [bS]
          rw [ld_14 (by omega), x3.2.2.1.1]
          simp only [bS]
          have D3 : df cmJ cmK S W := D2.tr (x2.1.mono (fun j hj => by cases hj) (by decide))
          refine ⟨W, rfl, mTp' W D3 (by rw [x2.1.1 1 (by simp)]; exact z1), ?_, ?_, mPg_df D3 (by decide) P, mNt_df D3 (by decide) Nn⟩
          · refine mEs_c H w.2.1 hel (some (σ.1, r)) (D3.1 2 (by decide)) (fun k h1 h2 i => by rw [D3.2 k (by simp; omega)]) (fun x hx hxe => (G2 x (by omega)).tr (x2.2 x hxe)) x3
          · rw [x2.1.1 33 (by simp)]
            exact q33
        | some q =>
          have hc := rdC_c (bs := σ.1) (mb := mb) (q := q) (by rw [hr])
          obtain ⟨qc, qp⟩ := q
          dsimp only at v3 hc ⊢
          rw [v3.1] at D2 G2 A2 q33 z1 ⊢
          rw [v3.2, if_neg (nI_nle (by omega) (by omega))]
          refine ⟨_, rfl, mTp' _ D2 z1, mEs_ag H w.2.1 (D2.1 2 (by decide)) fun x hx => G2 x (by have hx : x < σ.2.1.length := hx; omega), q33, mPg_df D2 (by decide) P, mNt_df D2 (by decide) Nn⟩
    · simp only [gl189_22]
      rw [if_pos (nI_le (Nat.le_refl _) (by have := wt.1; omega))]
    · obtain ⟨⟨h1, h2⟩, h3⟩ := hs
      have wl := wt.1
      constructor
      · have z0 : s.2 0 i = nI (tx σ.1 i) := by
          rw [h1.2 0 (by decide)]
          exact (hT i hi).2
        simp only [gl189_22]
        rw [if_neg (nI_ge hi (by omega)), ld_0 (by omega), z0, lt_24000, nI_add]
        simp only [bS]
        rw [st_12 (by omega)]
        simp only [bS, nI_1]
      · refine ⟨⟨h1.tr (df.set (by decide)), fun x hx => (h2 x hx).tr (ag.set (Or.inr ?_))⟩, fun j hj => ?_⟩
        · show 600 * (x + 1) ≤ 24000 + i
          omega
        · by_cases h : j = i
          · rw [sS_e2 (by omega), h]
          · rw [sS_ne (by omega)]
            exact h3 j (by omega)
end PMCO
