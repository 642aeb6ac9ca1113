section PC28
variable {C C' C1 C2 D : xC} {w p : Nat} {g : Gh} {es : List En} {q : Nat × Nat}
/-- the layout's cells, ready -/
def lyV (C : xC) (w : Nat) : Prop := lyS C ∧ (∃ l, TX C 10 11 1200 l) ∧ cI C 8 7 = nI w ∧ (cR C 8 5 = some 13 ∧ (cK C 13).2 = 122) ∧ cR C 8 6 = some 14 ∧ (cK C 14).2 = 122
/-- a page being written, with targets and badness -/
def pgR (C : xC) (p : Nat) (g : Gh) (N : Nat) (d : Dr) : Prop := pgW C p d.1 [] ∧ ouW d.1 ∧ tgC C p g d.2.1 ∧ tOK N d.2.1 ∧ cI C p 5 = nI d.2.2
/-- the frame of laying out -/
def lwE (p : Nat) (C C' : xC) : Prop := eqO (fun a => a ∉ [8, 10, 11, 12, 13, 14] ∧ (a < p ∨ p + 5 ≤ a)) C C' ∧ (∀ k, cR C' 8 k = cR C 8 k) ∧ (∀ k, k ∉ [4, 8, 9] → cI C' 8 k = cI C 8 k) ∧ ((∀ k, cR C' p k = cR C p k) ∧ cK C' 8 = cK C 8) ∧ sm C C'
theorem lwE.rfl' : lwE p C C := ⟨eqO.rfl', fun _ => rfl, fun _ _ => rfl, ⟨fun _ => rfl, rfl⟩, sm.rfl'⟩
theorem lwE.tr (a : lwE p C C1) (b : lwE p C1 C2) : lwE p C C2 := ⟨a.1.tr b.1, fun k => (b.2.1 k).trans (a.2.1 k), fun k hk => (b.2.2.1 k hk).trans (a.2.2.1 k hk), ⟨fun k => (b.2.2.2.1.1 k).trans (a.2.2.2.1.1 k), b.2.2.2.1.2.trans a.2.2.2.1.2⟩, a.2.2.2.2.tr b.2.2.2.2⟩
theorem ckE.lw (E : ckE p C C') : lwE p C C' := ⟨E.1.mono fun a ha => ⟨fun h => ha.1 (by simp at h ⊢; omega), by omega, by omega⟩, E.2.1, fun k hk => E.2.2.1 k (by simp at hk; omega), ⟨E.2.2.2.2.1.1, E.2.2.2.1.2⟩, E.2.2.2.2.2⟩
theorem brE.lw (hp : 20 ≤ p) (E : brE C C') : lwE p C C' := ⟨E.1.mono fun a ha => by have h := ha.1; simp at h; exact ⟨by omega, by omega⟩, (E.1 8 (by decide)).2.1, fun k _ => (E.1 8 (by decide)).1 k, ⟨(E.1 p ⟨by omega, by omega⟩).2.1, (E.1 8 (by decide)).2.2⟩, E.2.2⟩
theorem pvE.lw (hp : 20 ≤ p) (E : pvE p C C') : lwE p C C' := ⟨E.1.mono fun a ha => ⟨by omega, by omega, by omega, by omega⟩, (E.1 8 ⟨by omega, by omega, by omega, by omega⟩).2.1, fun k _ => (E.1 8 ⟨by omega, by omega, by omega, by omega⟩).1 k, ⟨E.2.1, (E.1 8 ⟨by omega, by omega, by omega, by omega⟩).2.2⟩, E.2.2.2.2⟩
theorem lwE.u (hp : 20 ≤ p) {k : Nat} {v : Int32} (h : k = 8 ∨ k = 9) : lwE p C (uI C 8 k v) := ⟨eqO.uI (fun h9 => h9.1 (by simp)), fun _ => rfl, fun j hj => by simp at hj; rw [uI_n (by omega)], ⟨fun _ => rfl, rfl⟩, rfl, rfl⟩
theorem pgW.kp {o : Ou} {l : List Nat} {P : Nat → Prop} (W : pgW C p o l) (E : eqO P C C') (h : P (p + 1) ∧ P (p + 2) ∧ P (p + 3)) (hr : ∀ k, cR C' p k = cR C p k) (hi : ∀ k, k ≠ 4 → cI C' p k = cI C p k) : pgW C' p o l := by
  obtain ⟨⟨⟨s1, s2, s3⟩, hw⟩, W⟩ := W
  refine ⟨⟨⟨by rw [hr]; exact s1, by rw [hr]; exact s2, by rw [(E _ h.2.2).2.2]; exact s3⟩, hw⟩, ?_⟩
  rcases W with ⟨t, ⟨n1, n2⟩, n6, n7, n8⟩ | ⟨n8, ⟨bs, t⟩, ⟨n, hn, n3⟩, hl⟩
  · exact Or.inl ⟨t.kp E h.1 h.2.1, ⟨by rw [hi 3 (by decide)]; exact n1, fun i hi => by rw [(E _ h.2.2).1]; exact n2 i hi⟩, by rw [hi 6 (by decide)]; exact n6, by rw [hi 7 (by decide)]; exact n7, by rw [hi 8 (by decide)]; exact n8⟩
  · exact Or.inr ⟨by rw [hi 8 (by decide)]; exact n8, ⟨bs, t.kp E h.1 h.2.1⟩, ⟨n, hn, by rw [hi 3 (by decide)]; exact n3⟩, hl⟩
theorem lyV.kp (L : lyV C w) (E : lwE p C C') (h : (cK C' 12 = cK C 12 ∧ cK C' 13 = cK C 13 ∧ cK C' 14 = cK C 14) ∧ ∃ l, TX C' 10 11 1200 l) : lyV C' w := by
  obtain ⟨⟨a1, a2, a3⟩, _, b, ⟨c1, c2⟩, d1, d2⟩ := L
  exact ⟨⟨by rw [E.2.1]; exact a1, by rw [E.2.1]; exact a2, by rw [h.1.1]; exact a3⟩, h.2, by rw [E.2.2.1 7 (by simp)]; exact b, ⟨by rw [E.2.1]; exact c1, by rw [h.1.2.1]; exact c2⟩, by rw [E.2.1]; exact d1, by rw [h.1.2.2]; exact d2⟩
/-- nothing to break -/
theorem g38_0 (h4 : cI C 8 4 = nI 0) (f3 : cR C 8 6 = some 14) (f4 : (cK C 14).2 = 122) (ls : Bool) : ∃ C', (if ls = true then g38 8 C else g37 8 C) = some C' ∧ brE C C' := by
  obtain ⟨N, hN, hN2⟩ : ∃ N, xFuel = N + 1 ∧ 200000 < N := ⟨999999, rfl, by decide⟩
  cases ls with
  | false =>
    rw [if_neg (by decide)]
    unfold g37
    rw [hN, gl37_2]
    dsimp only
    rw [h4, if_pos (by decide)]
    exact ⟨C, rfl, brE.rfl'⟩
  | true =>
    rw [if_pos (Eq.refl true)]
    unfold g38
    rw [f3]
    simp only [bS]
    rw [h4, cSt_n (n := 122) (by decide) f4 (by decide)]
    simp only [bS]
    rw [uI_n (by omega), h4, hN, gl38_17]
    dsimp only
    rw [if_pos (by decide)]
    exact ⟨_, rfl, brE.u4⟩
/-- a block is laid out -/
theorem g28_s (hp : 20 ≤ p) (inj : ∀ i j, i < es.length → j < es.length → g.1 i = g.1 j → i = j) (w0 : wE es) (hq : vI es q) (hc : ∀ i, i < 150 → 15 ≤ g.2.2.1 q.1 + i ∧ (g.2.2.1 q.1 + i < p ∨ p + 5 ≤ g.2.2.1 q.1 + i)) (B : blE C g es q) (hw : w ≤ 60) (V : lyV C w) {d : Dr} (R : pgR C p g es.length d) (hol : d.1.1.length < 2 ^ 20) (ls : Bool) : ∃ C', g28 8 (some p) (some (g.2.2.1 q.1 + 4 + q.2)) (bZ ls) C = some C' ∧ lyV C' w ∧ pgR C' p g es.length (layB es w ls q.1 (gC es q.1) ((gC es q.1).2.1.getD q.2 bkD) d) ∧ lwE p C C' := by
  obtain ⟨W, how, T, hT, h5⟩ := R
  obtain ⟨v3, _, v4⟩ := (vI_w w0 hq).2
  have wb := v4.1 _ (gD_mem (d := bkD) hq.2.1)
  have hl := cks_len (ts := d.2.1) w0 hq.1 hq.2.1
  have hM := cks_m (es := es) q.1 (gC es q.1) ((gC es q.1).2.1.getD q.2 bkD) d.2.1
  have hbl := (layB_len (w := w) (ls := ls) w0 hq.1 hq.2.1 hw (d := d) how).1
  obtain ⟨l0, T0⟩ := V.2.1
  obtain ⟨C1, z, hz, a1, a2, a3, a4, a5, a6⟩ := g29_s hp inj w0 hq (fun i hi => ⟨(hc i hi).1, by have := hc i hi; omega, by have := hc i hi; omega⟩) B V.1 T0 T hT
  rw [layB_eq] at hbl ⊢
  rw [← hz] at hl hM hbl ⊢
  clear hz
  have hk := hq.2.1
  have B1 : blE C1 g es q := B.kp w0 hq a6.1 fun i hi => by
    have := hc i hi
    refine ⟨?_, by omega, by omega⟩
    simp
    omega
  have bk := B1.2.1.1.2 q.2 hk
  generalize (gC es q.1).2.1.getD q.2 bkD = b at wb bk hbl ⊢
  have hde := wb.2.2.1
  have hso := wb.1
  have hF : lyF b ≤ 6 := by unfold lyF; split <;> omega
  have hO : lyO b ≤ 6 := by
    unfold lyO
    split
    · exact hF
    · split <;> omega
  unfold g28
  rw [a1]
  simp only [bS]
  -- the indents
  obtain ⟨C2, hC2⟩ : ∃ X, X = uI (uI C1 8 8 (nI (lyF b))) 8 9 (nI (lyO b)) := ⟨_, rfl⟩
  have e65 : (if cI C1 (g.2.2.1 q.1 + 4 + q.2) 1 = 1 then gj28_19 8 (some p) (some (g.2.2.1 q.1 + 4 + q.2)) (bZ ls) 1 C1 else gj28_19 8 (some p) (some (g.2.2.1 q.1 + 4 + q.2)) (bZ ls) 0 C1) = (if bZ ls = 1 then (g38 8 C2).bind fun X => gj28_84 8 (some p) (some (g.2.2.1 q.1 + 4 + q.2)) (bZ ls) (bZ (decide (bSo b = 1))) (nI (2 * bDe b)) X else (g37 8 C2).bind fun X => gj28_84 8 (some p) (some (g.2.2.1 q.1 + 4 + q.2)) (bZ ls) (bZ (decide (bSo b = 1))) (nI (2 * bDe b)) X) := by
    rw [hC2]
    unfold lyO lyF gj28_19 gj28_43
    simp only [bS]
    rw [bk.2.1, bk.2.2.2.1, show (2 : Int32) * nI (bDe b) = nI (2 * bDe b) from pk_mul 2 (bDe b)]
    have nb : ∀ v, cI (uI C1 8 8 v) (g.2.2.1 q.1 + 4 + q.2) 1 = nI (bSo b) := fun v => by
      have := (hc (4 + q.2) (by omega)).1
      rw [uI_n (by omega)]
      exact bk.2.1
    by_cases h1 : bSo b = 1
    · rw [if_pos (show nI (bSo b) = 1 by rw [h1]; rfl), decide_eq_true h1, if_pos h1, if_pos h1, if_neg (show ¬ (1 : Int32) = 0 by decide), nb, g138_s (by omega)]
      simp only [bS, bZ_0]
      rw [show isTg (bSo b) = false by rw [h1]; rfl, if_pos (Eq.refl false)]
      unfold gj28_65
      simp only [bS]
      rw [uI_e, show nI (2 * bDe b) + 2 = nI (2 * bDe b + 2) from nI_add _ 2]
      rfl
    · rw [if_neg (show ¬ _ = (1 : Int32) from nI_ne h1 (by omega) (by decide)), decide_eq_false h1, if_neg h1, if_neg h1, if_pos trivial, nb, g138_s (by omega)]
      simp only [bS, bZ_0]
      cases ht : isTg (bSo b) with
      | false =>
        rw [if_pos (Eq.refl false), if_neg (show ¬ false = true by decide)]
        unfold gj28_65
        simp only [bS]
        rw [uI_e]
        rfl
      | true =>
        rw [if_neg (show ¬ true = false by decide), if_pos (Eq.refl true)]
        unfold gj28_65
        simp only [bS]
        rfl
  rw [e65]
  clear e65
  have O2 : eqO (fun a => a ≠ 8) C1 C2 := by rw [hC2]; exact (eqO.uI (fun h9 => h9 rfl)).tr (eqO.uI (fun h9 => h9 rfl))
  have E2 : lwE p C C2 := a6.lw.tr (by rw [hC2]; exact (lwE.u hp (Or.inl rfl)).tr (lwE.u hp (Or.inr rfl)))
  have K2 : ckC C2 z := ⟨a2.1.kp O2 (by decide) (by decide), by rw [hC2, uI_n (by omega), uI_n (by omega)]; exact a2.2.1, fun i hi => by rw [(O2 12 (by decide)).1]; exact a2.2.2 i hi⟩
  have V2 : lyV C2 w := V.kp E2 ⟨⟨by rw [(O2 12 (by decide)).2.2]; exact a6.2.2.2.1.1, by rw [(O2 13 (by decide)).2.2]; exact (a6.1 13 ⟨by decide, by omega, by omega⟩).2.2, by rw [(O2 14 (by decide)).2.2]; exact (a6.1 14 ⟨by decide, by omega, by omega⟩).2.2⟩, _, K2.1⟩
  have g8 : cI C2 8 8 = nI (lyF b) := by rw [hC2, uI_n (by omega), uI_e]
  have g9 : cI C2 8 9 = nI (lyO b) := by rw [hC2, uI_e]
  have W1 : pgW C1 p d.1 [] := W.kp a6.1 ⟨⟨by simp; omega, by omega, by omega⟩, ⟨by simp; omega, by omega, by omega⟩, by simp; omega, by omega, by omega⟩ a6.2.2.2.2.1.1 a6.2.2.2.2.1.2
  have W2 : pgW C2 p d.1 [] := W1.kp O2 ⟨by omega, by omega, by omega⟩ (O2 p (by omega)).2.1 fun k _ => (O2 p (by omega)).1 k
  have T2 : tgC C2 p g z.2.2 := a3.kp O2 (by omega) (by omega)
  have h52 : cI C2 p 5 = nI d.2.2 := by rw [(O2 p (by omega)).1, a6.2.2.2.2.1.2 5 (by decide)]; exact h5
  clear hC2
  -- the head
  have e84 : ∀ (U : xC), pgW U p d.1 [] → cI U 8 4 = nI z.2.1.length → ∃ V, gj28_84 8 (some p) (some (g.2.2.1 q.1 + 4 + q.2)) (bZ ls) (bZ (decide (bSo b = 1))) (nI (2 * bDe b)) U = gj28_119 8 (some p) (some (g.2.2.1 q.1 + 4 + q.2)) (bZ ls) (bZ (decide (bSo b = 1))) (nI (2 * bDe b)) V ∧ pgW V p d.1 (lyH b z.2.1.length) ∧ pwE p U V := fun U WU h4 => by
    unfold gj28_84 gj28_101 lyH
    simp only [bS, bZ_0]
    by_cases h1 : bSo b = 1
    · rw [decide_eq_true h1, if_neg (show ¬ true = false by decide), if_pos h1]
      obtain ⟨X, x1, x2, x3⟩ := g53_s (p := p) (o := d.1) (2 * bDe b) xFuel 0 U [] (2 * bDe b) (by omega) (pFuel _ (by omega)) (by omega) WU
      rw [show g53 p (nI (2 * bDe b)) U = some X from x1]
      simp only [bS]
      obtain ⟨Y, y1, y2, y3⟩ := g52_s x2 (c := 45) (by decide)
      rw [show (45 : Int32) = nI 45 from rfl, y1]
      simp only [bS]
      rw [if_neg (show ¬ true = false by decide), ((x3.tr y3).1 8 ⟨by omega, by omega, by omega, by omega⟩).1, h4]
      by_cases h0 : z.2.1.length = 0
      · rw [if_pos (by rw [h0]; decide), if_pos h0, List.append_nil]
        exact ⟨Y, Eq.refl _, y2, x3.tr y3⟩
      · rw [if_neg (show ¬ nI z.2.1.length ≤ 0 from nI_ge (a := 0) (by omega) (by omega)), if_neg h0]
        obtain ⟨Z, z1, z2, z3⟩ := g52_s y2 (c := 32) (by decide)
        rw [show (32 : Int32) = nI 32 from rfl, z1]
        simp only [bS]
        exact ⟨Z, Eq.refl _, z2, (x3.tr y3).tr z3⟩
    · rw [decide_eq_false h1, if_pos (Eq.refl false), if_pos (Eq.refl false), if_neg h1]
      exact ⟨U, Eq.refl _, WU, pwE.rfl'⟩
  have e37 : (if bZ ls = 1 then (g38 8 C2).bind fun X => gj28_84 8 (some p) (some (g.2.2.1 q.1 + 4 + q.2)) (bZ ls) (bZ (decide (bSo b = 1))) (nI (2 * bDe b)) X else (g37 8 C2).bind fun X => gj28_84 8 (some p) (some (g.2.2.1 q.1 + 4 + q.2)) (bZ ls) (bZ (decide (bSo b = 1))) (nI (2 * bDe b)) X) = (if ls = true then g38 8 C2 else g37 8 C2).bind fun X => gj28_84 8 (some p) (some (g.2.2.1 q.1 + 4 + q.2)) (bZ ls) (bZ (decide (bSo b = 1))) (nI (2 * bDe b)) X := by
    cases ls with
    | false => rw [if_neg (show ¬ bZ false = 1 by decide), if_neg (show ¬ false = true by decide)]
    | true => rw [if_pos (show bZ true = 1 by decide), if_pos (Eq.refl true)]
  rw [e37]
  clear e37
  have o8 : ∀ a, 8 ≤ a → a ≤ 14 → (fun a => a ≠ p ∧ a ≠ p + 1 ∧ a ≠ p + 2 ∧ a ≠ p + 3) a := fun a h1 h2 => ⟨by omega, by omega, by omega, by omega⟩
  -- behind the breaking
  have fin : ∀ (U : xC), brE C2 U → lwE p C U ∧ pgW U p d.1 [] ∧ cI U 8 4 = nI z.2.1.length ∧ cI U p 5 = nI d.2.2 ∧ ∀ X, pvE p U X → lwE p C X ∧ lyV X w ∧ tgC X p g z.2.2 := fun U EU => by
    have q1 := EU.1 p ⟨by omega, by omega⟩
    have EU2 : lwE p C U := E2.tr (EU.lw hp)
    refine ⟨EU2, W2.kp EU.1 ⟨⟨by omega, by omega⟩, ⟨by omega, by omega⟩, by omega, by omega⟩ q1.2.1 fun k _ => q1.1 k, by rw [(EU.1 8 (by decide)).1]; exact K2.2.1, by rw [q1.1]; exact h52, fun X EX => ?_⟩
    have TX9 : TX X 10 11 1200 z.1 := (K2.1.kp EU.1 (by decide) (by decide)).kp EX.1 (o8 10 (by decide) (by decide)) (o8 11 (by decide) (by decide))
    refine ⟨EU2.tr (EX.lw hp), V2.kp ((EU.lw hp).tr (EX.lw hp)) ⟨⟨by rw [(EX.1 12 (o8 12 (by decide) (by decide))).2.2, (EU.1 12 (by decide)).2.2], by rw [(EX.1 13 (o8 13 (by decide) (by decide))).2.2, EU.2.1.1], by rw [(EX.1 14 (o8 14 (by decide) (by decide))).2.2, EU.2.1.2]⟩, _, TX9⟩, ?_⟩
    have TU : tgC U p g z.2.2 := T2.kp EU.1 ⟨by omega, by omega⟩ ⟨by omega, by omega⟩
    have q4 := EX.1 (p + 4) ⟨by omega, by omega, by omega, by omega⟩
    exact ⟨by rw [EX.2.1]; exact TU.1, by rw [q4.2.2]; exact TU.2.1, by rw [EX.2.2.1]; exact TU.2.2.1, fun i hi => by rw [q4.2.1]; exact TU.2.2.2 i hi⟩
  by_cases h0 : z.2.1.length = 0
  · rw [if_pos h0] at hbl ⊢
    obtain ⟨U, u1, u2⟩ := g38_0 (by rw [← h0]; exact K2.2.1) V2.2.2.2.2.1 V2.2.2.2.2.2 ls
    rw [u1]
    simp only [bS]
    obtain ⟨EU, WU, U4, U5, fX⟩ := fin U u2
    obtain ⟨X, x1, x2, x3⟩ := e84 U WU U4
    rw [x1]
    unfold gj28_119 g39 gj39_11
    rw [(x3.1 8 (o8 8 (by decide) (by decide))).1, U4, if_pos (by rw [h0]; rfl)]
    simp only [bS]
    obtain ⟨Y, y1, y2, y3⟩ := g56_s x2 (by have := how.2; omega)
    rw [y1]
    simp only [bS]
    obtain ⟨N, hN, hN2⟩ : ∃ N, xFuel = N + 1 ∧ 200000 < N := ⟨999999, rfl, by decide⟩
    have EY := x3.tr y3
    obtain ⟨EX, VX, TX'⟩ := fX Y EY.v
    rw [hN, gl39_15]
    dsimp only
    rw [VX.1.2.1]
    simp only [bS]
    rw [VX.1.2.2, if_neg (by decide), (EY.1 8 (o8 8 (by decide) (by decide))).1, U4, if_pos (by rw [h0]; decide)]
    refine ⟨Y, rfl, VX, ⟨y2, hbl, TX', a4, ?_⟩, EX⟩
    rw [EY.2.2.2.1, U5]
    congr 1
    dsimp only
    rw [List.getD_eq_getElem?_getD, List.getElem?_eq_none (by rw [plan_len]; omega)]
    rfl
  · rw [if_neg h0] at hbl ⊢
    have B2 : brS C2 z w (lyF b) (lyO b) := by
      refine ⟨V2.1, K2, ?_, ⟨g8, g9, V2.2.2.1⟩, V2.2.2.2.1, V2.2.2.2.2⟩
      rw [(O2 12 (by decide)).1]
      exact a5.resolve_left h0
    have hm : ∀ a b, a ≤ b → b ≤ z.2.1.length → cks0 z a ≤ cks0 z b ∧ cks0 z b ≤ 1200 := fun a b hab hb => by
      have h1 := hM.m (b - a) a (by omega)
      rw [show a + (b - a) = b by omega] at h1
      exact ⟨h1, Nat.le_trans hM.le (by omega)⟩
    obtain ⟨U, u1, u2, u3⟩ := g38_s (by omega) hw (by omega) (by omega) hm B2 h0 ls
    rw [u1]
    simp only [bS]
    obtain ⟨EU, WU, U4, U5, fX⟩ := fin U u3
    obtain ⟨X, x1, x2, x3⟩ := e84 U WU U4
    rw [x1]
    unfold gj28_119
    have ht := plan_t (c := z) (w := w) (fs := lyF b) (ot := lyO b) (ls := ls) hw
    have hsm : ∀ i, i < z.2.1.length → ((plan z w (lyF b) (lyO b) ls z.2.1.length).getD i (0, 0)).2 = bdn z w (lyF b) (lyO b) i ((plan z w (lyF b) (lyO b) ls z.2.1.length).getD i (0, 0)).1 + ((plan z w (lyF b) (lyO b) ls z.2.1.length).getD ((plan z w (lyF b) (lyO b) ls z.2.1.length).getD i (0, 0)).1 (0, 0)).2 := fun i hi => by
      have := (plan_sum (c := z) (w := w) (fs := lyF b) (ot := lyO b) (ls := ls) z.2.1.length (Nat.le_refl _) i hi).1
      rw [Nat.sub_self, Nat.zero_add, Nat.sub_zero] at this
      exact this
    have hH := lyH_len hde z.2.1.length
    obtain ⟨Y, y1, y2, y3, y4⟩ := g39_s hp (by omega) hw (by omega) (by omega) hM (by omega) (plan_len _) ht hsm how (by omega) (by omega) ((B2.kp u3).eq x3.1 o8) (fun j hj => by rw [(x3.1 13 (o8 13 (by decide) (by decide))).1]; exact u2 j hj) h0 x2 (by rw [x3.2.2.2.1]; exact U5)
    rw [y1]
    simp only [bS]
    obtain ⟨EX, VX, TX'⟩ := fX Y (x3.v.tr y4)
    exact ⟨Y, rfl, VX, ⟨y2, hbl, TX', a4, y3⟩, EX⟩
end PC28
