section PC2Z
variable {C C' C1 C2 D : xC} {p : Nat} {g : Gh} {es : List En} {c : Ck} {q : Nat × Nat}
/-- the pieces of a block -/
theorem g29_p (hp : 20 ≤ p) (inj : ∀ i j, i < es.length → j < es.length → g.1 i = g.1 j → i = j) (w : wE es) (hq : vI es q) (hc : ∀ i, i < 150 → 15 ≤ g.2.2.1 q.1 + i ∧ g.2.2.1 q.1 + i ≠ p ∧ g.2.2.1 q.1 + i ≠ p + 4) {b : Bk} (hb : (gC es q.1).2.1.getD q.2 bkD = b) : ∀ m n i (k : Ck) (C : xC), i + m = bMa b → m < n → blE C g es q → lyS C → ckC C k → tgC C p g k.2.2 → tOK es.length k.2.2 → (k.2.1.length = 0 ∨ cI C 12 k.2.1.length = nI k.1.length) → k.1.length + pCos ((((gC es q.1).2.2.drop (bFi b)).take (bMa b)).drop i) ≤ 1190 → k.2.1.length + m ≤ 121 → ∃ C' z, z = ((((gC es q.1).2.2.drop (bFi b)).take (bMa b)).drop i).foldl (ckPc es q.1 (gC es q.1).1) k ∧ gl29_46 n 8 (some p) (some (g.2.2.1 q.1 + 4 + q.2)) (some (g.2.2.1 q.1)) (nI i) C = some C' ∧ ckC C' z ∧ tgC C' p g z.2.2 ∧ tOK es.length z.2.2 ∧ (z.2.1.length = 0 ∨ cI C' 12 z.2.1.length = nI z.1.length) ∧ ckE p C C' := by
  obtain ⟨wt, v1, v2, v3, v4, _⟩ := vI_w w hq
  have wb := v3 _ (gD_mem (d := bkD) hq.2.1)
  rw [hb] at wb
  have hk := hq.2.1
  have wt1 := wt.1
  have b4 := wb.2.2.2.1
  have hE : ∀ C D : xC, ckE p C D → blE C g es q → blE D g es q := fun C D ED B => B.kp w hq ED.1 fun i hi => by
    have := hc i hi
    refine ⟨?_, this.2⟩
    simp
    omega
  intro m
  induction m with
  | zero =>
    intro n i k C hi hn B S K T hT hcl hl hk2
    obtain ⟨n, rfl⟩ : ∃ x, n = x + 1 := ⟨n - 1, by omega⟩
    have bk := B.2.1.1.2 q.2 hk
    rw [hb] at bk
    rw [gl29_46]
    dsimp only
    simp only [bS]
    rw [bk.2.2.2.2.2.1, if_pos (nI_le (by omega) (by omega)), List.drop_eq_nil_of_le (by rw [List.length_take]; omega)]
    exact ⟨C, k, rfl, rfl, K, T, hT, hcl, ckE.rfl'⟩
  | succ m ih =>
    intro n i k C hi hn B S K T hT hcl hl hk2
    obtain ⟨n, rfl⟩ : ∃ x, n = x + 1 := ⟨n - 1, by omega⟩
    have bk := B.2.1.1.2 q.2 hk
    rw [hb] at bk
    have hpl : bFi b + i < (gC es q.1).2.2.length := by omega
    have ih2 := ih n (i + 1)
    have ei : (((gC es q.1).2.2.drop (bFi b)).take (bMa b)).drop i = (gC es q.1).2.2.getD (bFi b + i) pcD :: (((gC es q.1).2.2.drop (bFi b)).take (bMa b)).drop (i + 1) := by
      rw [List.drop_eq_getElem_cons (by rw [List.length_take, List.length_drop]; omega)]
      congr 1
      rw [List.getElem_take, List.getElem_drop, List.getD_eq_getElem?_getD, List.getElem?_eq_getElem (by omega)]
      rfl
    have l5 : ∀ D, blE D g es q → pSo ((gC es q.1).2.2.getD (bFi b + i) pcD) = 2 → cR D (g.2.2.1 q.1 + 30 + (bFi b + i)) 7 = (lead es q.1 (cut (gC es q.1).1 (pNf ((gC es q.1).2.2.getD (bFi b + i) pcD)) (pNt ((gC es q.1).2.2.getD (bFi b + i) pcD)))).map g.1 := fun D BD h2 => by
      have := BD.2.2.2.2 i
      rw [hb] at this
      exact this (by omega) h2
    have pk : ∀ D, blE D g es q → cPc D (g.2.2.1 q.1 + 30 + (bFi b + i)) ((gC es q.1).2.2.getD (bFi b + i) pcD) := fun D BD => BD.2.1.2.2 _ hpl
    have wp := v4 _ (gD_mem (d := pcD) hpl)
    rw [ei] at hl ⊢
    generalize (((gC es q.1).2.2.drop (bFi b)).take (bMa b)).drop (i + 1) = rest at hl ih2 ⊢
    generalize (gC es q.1).2.2.getD (bFi b + i) pcD = pc at pk wp l5 hl ⊢
    rw [List.foldl_cons]
    simp only [pCos] at hl
    obtain ⟨y1, y2, y3, y4, y5, y6, y7⟩ := wp
    have p0 := pk C B
    have g6e := g6_s B.2.1 B.2.2.1 v2 (nI (bFi b + i))
    rw [if_neg (show ¬ nI (bFi b + i) < 0 from nI_pos (by omega)), nI_clamp (by omega), if_pos hpl] at g6e
    rw [gl29_46]
    dsimp only
    simp only [bS]
    rw [bk.2.2.2.2.2.1, if_neg (nI_ge (by omega) (by omega)), bk.2.2.2.2.1, nI_add, g6e]
    simp only [bS]
    rw [if_neg (show ¬ some (g.2.2.1 q.1 + 30 + (bFi b + i)) = none by simp)]
    rw [p0.2.2.2.2.2]
    simp only [bZ_0]
    have hlen := ckPc_len (es := es) q.1 (gC es q.1).1 k pc
    have hco : pSt pc - pSf pc ≤ pCo pc := by unfold pCo; omega
    -- behind the chunk's beginning
    have go : ∀ (U : xC), ckE p C U → ckC U (k.1, if pGl pc = true then k.2.1 else k.2.1 ++ [k.1.length], k.2.2) → tgC U p g k.2.2 → ∃ C' z, z = rest.foldl (ckPc es q.1 (gC es q.1).1) (ckPc es q.1 (gC es q.1).1 k pc) ∧ gj29_86 (gl29_46 n) 8 (some p) (some (g.2.2.1 q.1 + 4 + q.2)) (some (g.2.2.1 q.1)) (nI i) (some (g.2.2.1 q.1 + 30 + (bFi b + i))) U = some C' ∧ ckC C' z ∧ tgC C' p g z.2.2 ∧ tOK es.length z.2.2 ∧ (z.2.1.length = 0 ∨ cI C' 12 z.2.1.length = nI z.1.length) ∧ ckE p C C' := fun U EU KU TU => by
      have BU := hE C U EU B
      have pU := pk U BU
      have SU := S.ck EU
      unfold gj29_86
      simp only [bS]
      rw [SU.1]
      simp only [bS]
      obtain ⟨V, x1, x2, x3, x4⟩ := g100_s KU.1 BU.1 (by decide) ⟨by have := hc 1 (by decide); omega, by have := hc 1 (by decide); omega, by have := hc 2 (by decide); omega, by have := hc 2 (by decide); omega⟩ y3 y4 (by dsimp only; omega) (by decide)
      rw [BU.2.2.1.1, pU.2.2.1, pU.2.2.2.1, x1]
      simp only [bS]
      have EV : ckE p C V := EU.tr (ckE.of hp (lyE.t x3 x4))
      have KV := KU.t x2 x3
      have TV : tgC V p g k.2.2 := TU.kp x3 ⟨by omega, by omega⟩ ⟨by omega, by omega⟩
      have BV := hE C V EV B
      have pV := pk V BV
      have SV := S.ck EV
      have e132 : ∀ (W : xC), ckE p C W → ckC W (ckPc es q.1 (gC es q.1).1 k pc) → tgC W p g (ckPc es q.1 (gC es q.1).1 k pc).2.2 → tOK es.length (ckPc es q.1 (gC es q.1).1 k pc).2.2 → ∃ C' z, z = rest.foldl (ckPc es q.1 (gC es q.1).1) (ckPc es q.1 (gC es q.1).1 k pc) ∧ gj29_132 (gl29_46 n) 8 (some p) (some (g.2.2.1 q.1 + 4 + q.2)) (some (g.2.2.1 q.1)) (nI i) (some (g.2.2.1 q.1 + 30 + (bFi b + i))) W = some C' ∧ ckC C' z ∧ tgC C' p g z.2.2 ∧ tOK es.length z.2.2 ∧ (z.2.1.length = 0 ∨ cI C' 12 z.2.1.length = nI z.1.length) ∧ ckE p C C' := fun W EW KW TW hTW => by
        have SW := S.ck EW
        unfold gj29_132
        obtain ⟨X, z1, z2, z3, z4⟩ := g32_s SW KW (by omega)
        rw [z1]
        simp only [bS]
        rw [nI_1]
        have EX : ckE p C X := EW.tr (ckE.of hp z4)
        obtain ⟨Y, z, h1, h2, h3, h4, h5, h6, h7⟩ := ih2 (ckPc es q.1 (gC es q.1).1 k pc) X (by omega) (by omega) (hE C X EX B) (S.ck EX) z2 (TW.kp z4.1 (by simp; omega) (by simp; omega)) hTW (Or.inr z3) (by omega) (by omega)
        exact ⟨Y, z, h1, h2, h3, h4, h5, h6, EX.tr h7⟩
      rw [pV.1]
      by_cases h2 : pSo pc = 2
      · rw [if_pos (show nI (pSo pc) = 2 by rw [h2]; rfl)]
        have hco2 : pSt pc - pSf pc + 4 = pCo pc := by unfold pCo; rw [if_pos h2]
        rw [l5 V BV h2]
        obtain ⟨kk, V1, W, a1, a2, a3, a4, a5, a6⟩ := mk_s hp inj KV TV hT (t := lead es q.1 (cut (gC es q.1).1 (pNf pc) (pNt pc))) (fun e he => lead_lt w he) (by dsimp only; rw [List.length_append, cut_len y4]; omega)
        rw [a1]
        simp only [bS]
        rw [SV.1, a2]
        simp only [bS]
        have ek : ckPc es q.1 (gC es q.1).1 k pc = (k.1 ++ cut (gC es q.1).1 (pSf pc) (pSt pc) ++ (mark k.2.2 (lead es q.1 (cut (gC es q.1).1 (pNf pc) (pNt pc)))).1, if pGl pc = true then k.2.1 else k.2.1 ++ [k.1.length], (mark k.2.2 (lead es q.1 (cut (gC es q.1).1 (pNf pc) (pNt pc)))).2) := by
          unfold ckPc
          dsimp only
          rw [if_pos h2]
        exact e132 W (EV.tr a6) (by rw [ek]; exact a3) (by rw [ek]; exact a4) (by rw [ek]; exact a5)
      · rw [if_neg (show ¬ _ = (2 : Int32) from nI_ne h2 (by omega) (by decide))]
        have ek : ckPc es q.1 (gC es q.1).1 k pc = (k.1 ++ cut (gC es q.1).1 (pSf pc) (pSt pc), if pGl pc = true then k.2.1 else k.2.1 ++ [k.1.length], k.2.2) := by
          unfold ckPc
          dsimp only
          rw [if_neg h2, List.append_nil]
        exact e132 V EV (by rw [ek]; exact KV) (by rw [ek]; exact TV) (by rw [ek]; exact hT)
    cases hg : pGl pc with
    | true =>
      rw [if_neg (show ¬ true = false by decide)]
      exact go C ckE.rfl' (by rw [hg, if_pos (Eq.refl true)]; exact K) T
    | false =>
      rw [if_pos (Eq.refl false)]
      obtain ⟨U, u1, u2, u3⟩ := g31_s S K (by omega)
      rw [u1]
      simp only [bS]
      exact go U (ckE.of hp u3) (by rw [hg, if_neg (by decide)]; exact u2) (T.kp u3.1 (by simp; omega) (by simp; omega))
/-- a block is cut in chunks -/
theorem g29_s (hp : 20 ≤ p) (inj : ∀ i j, i < es.length → j < es.length → g.1 i = g.1 j → i = j) (w : wE es) (hq : vI es q) (hc : ∀ i, i < 150 → 15 ≤ g.2.2.1 q.1 + i ∧ g.2.2.1 q.1 + i ≠ p ∧ g.2.2.1 q.1 + i ≠ p + 4) (B : blE C g es q) (S : lyS C) {l0 : List Nat} (T0 : TX C 10 11 1200 l0) {ts : List Nat} (T : tgC C p g ts) (hT : tOK es.length ts) : ∃ C' z, z = cks es q.1 (gC es q.1) ((gC es q.1).2.1.getD q.2 bkD) ts ∧ g29 8 (some p) (some (g.2.2.1 q.1 + 4 + q.2)) C = some C' ∧ ckC C' z ∧ tgC C' p g z.2.2 ∧ tOK es.length z.2.2 ∧ (z.2.1.length = 0 ∨ cI C' 12 z.2.1.length = nI z.1.length) ∧ ckE p C C' := by
  obtain ⟨wt, v1, v2, v3, v4, v5, _⟩ := vI_w w hq
  have wb := v3 _ (gD_mem (d := bkD) hq.2.1)
  have hk := hq.2.1
  have wt1 := wt.1
  obtain ⟨b, hb⟩ : ∃ b, (gC es q.1).2.1.getD q.2 bkD = b := ⟨_, rfl⟩
  rw [hb] at wb ⊢
  have hcos : pCos (((gC es q.1).2.2.drop (bFi b)).take (bMa b)) ≤ 600 := by
    have h3 := pCos_take ((gC es q.1).2.2.drop (bFi b)) (bMa b)
    have h4 := pCos_drop (gC es q.1).2.2 (bFi b)
    omega
  have hma : bMa b ≤ 120 := by have := wb.2.2.2.1; omega
  have hd1 := ckHd_len (es := es) (ts := ts) (e := q.1) (bs := (gC es q.1).1) wb
  have hE : ∀ C D : xC, ckE p C D → blE C g es q → blE D g es q := fun C D ED B => B.kp w hq ED.1 fun i hi => by
    have := hc i hi
    refine ⟨?_, this.2⟩
    simp
    omega
  unfold g29
  rw [S.1]
  simp only [bS]
  obtain ⟨C1, a1, a2, a3, a4⟩ := g101_0 T0 (by decide)
  rw [a1]
  simp only [bS]
  have E1 : ckE p C C1 := ckE.of hp (lyE.t (a3.mono fun a ha => ha.1) a4)
  obtain ⟨C2, hC2⟩ : ∃ X, X = uI C1 8 4 0 := ⟨_, rfl⟩
  rw [← hC2]
  have O2 : eqO (fun a => a ≠ 8) C1 C2 := by rw [hC2]; exact eqO.uI (fun h9 => h9 rfl)
  have E2 : ckE p C C2 := E1.tr (by
    have e9 := O2 p (by omega)
    refine ⟨O2.mono fun a ha => by have h := ha.1; simp at h; omega, by rw [hC2]; exact fun k => rfl, by rw [hC2]; exact fun k hk => by rw [uI_n (by omega)], ⟨(O2 12 (by decide)).2.2, by rw [hC2]; rfl⟩, ⟨e9.2.1, fun k _ => e9.1 k⟩, by rw [hC2]; exact ⟨rfl, rfl⟩⟩)
  have K2 : ckC C2 ([], [], ts) := ⟨a2.kp O2 (by decide) (by decide), by rw [hC2, uI_e]; rfl, fun i hi => absurd hi (Nat.not_lt_zero _)⟩
  have T2 : tgC C2 p g ts := (T.kp a3 (by omega) (by omega)).kp O2 (by omega) (by omega)
  have B2 := hE C C2 E2 B
  have S2 := S.ck E2
  have bk := B2.2.1.1.2 q.2 hk
  rw [hb] at bk
  clear hC2 O2
  rw [bk.1, if_neg (show ¬ some (g.2.2.1 q.1) = none by simp), bk.2.1, g138_s (by have := wb.1; omega)]
  simp only [bS, bZ_0]
  -- the pieces
  have go : ∀ (U : xC), ckE p C U → ckC U (ckHd es q.1 (gC es q.1).1 b ts) → tgC U p g (ckHd es q.1 (gC es q.1).1 b ts).2.2 → tOK es.length (ckHd es q.1 (gC es q.1).1 b ts).2.2 → ((ckHd es q.1 (gC es q.1).1 b ts).2.1.length = 0 ∨ cI U 12 (ckHd es q.1 (gC es q.1).1 b ts).2.1.length = nI (ckHd es q.1 (gC es q.1).1 b ts).1.length) → ∃ C' z, z = cks es q.1 (gC es q.1) b ts ∧ gj29_43 8 (some p) (some (g.2.2.1 q.1 + 4 + q.2)) (some (g.2.2.1 q.1)) U = some C' ∧ ckC C' z ∧ tgC C' p g z.2.2 ∧ tOK es.length z.2.2 ∧ (z.2.1.length = 0 ∨ cI C' 12 z.2.1.length = nI z.1.length) ∧ ckE p C C' := fun U EU KU TU hTU hcl => by
    unfold gj29_43
    obtain ⟨Y, z, h1, h2, h3, h4, h5, h6, h7⟩ := g29_p hp inj w hq hc hb (bMa b) xFuel 0 _ U (by omega) (pFuel _ (by omega)) (hE C U EU B) (S.ck EU) KU TU hTU hcl (by rw [List.drop_zero]; omega) (by omega)
    rw [List.drop_zero] at h1
    exact ⟨Y, z, h1, h2, h3, h4, h5, h6, EU.tr h7⟩
  cases ht : isTg (bSo b) with
  | false =>
    rw [if_pos (Eq.refl false)]
    have e0 : ckHd es q.1 (gC es q.1).1 b ts = ([], [], ts) := by
      unfold ckHd
      rw [ht, if_neg (by decide)]
    refine go C2 E2 ?_ ?_ ?_ ?_
    · rw [e0]; exact K2
    · rw [e0]; exact T2
    · rw [e0]; exact hT
    · rw [e0]; exact Or.inl rfl
  | true =>
    rw [if_neg (show ¬ true = false by decide), B2.2.2.1.1]
    obtain ⟨U, u1, u2, u3, u4, u5, u6⟩ := g30_s hp inj w hq B2 hc S2 K2 T2 hT hb ht
    rw [u1]
    simp only [bS]
    exact go U (E2.tr u6) u2 u3 u4 (Or.inr u5)
end PC2Z
