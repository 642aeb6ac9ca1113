section PCPA
variable {C C' C0 D : xC} {σ : St} {g : Gh} {es : List En}
theorem lwE.k {p : Nat} (E : lwE p C D) : eqO (pQ p) C D := E.1.mono fun a ha => ⟨fun h => by have := ha.2.1; simp at h; omega, ha.2.2⟩
/-- page -/
theorem c_page (R : CR C σ g) (w : wSt σ) (a : Nat → Int32) : ∃ C' g', g125 0 (a 1) (a 2) (a 3) C = some ((stp σ 12 a).1, C') ∧ CR C' (stp σ 12 a).2 g' ∧ Kp C C' ∧ wSt (stp σ 12 a).2 := by
  have H := R.2.2.1
  have w0 := w.2.1
  have w1 := w0.1
  show ∃ C' g', g125 0 (a 1) (a 2) (a 3) C = some ((sPag σ (a 1) (a 2) (a 3)).1, C') ∧ CR C' (sPag σ (a 1) (a 2) (a 3)).2 g' ∧ Kp C C' ∧ wSt (sPag σ (a 1) (a 2) (a 3)).2
  unfold g125 sPag gj125_36
  rw [R.1.2.1]
  simp only [bS]
  rw [g83_s H w0]
  simp only [bS]
  cases he : eIx σ.2.1 (a 1) with
  | none =>
    rw [if_pos (show Option.map g.1 none = none from rfl)]
    exact ⟨C, g, rfl, R, Kp.rfl', w⟩
  | some e =>
    obtain ⟨hel, _⟩ := eIx_lt he
    dsimp only
    rw [Option.map_some, if_neg (show ¬ some (g.1 e) = none by simp)]
    by_cases hA : 12 ≤ a 2 ∧ a 2 ≤ 60 ∧ (a 3 = 0 ∨ a 3 = 1)
    · obtain ⟨h12, h60, hh2⟩ := id hA
      have hh := (how01 (a 3)).mpr hh2
      rw [if_neg (Int32.not_lt.mpr h12), if_neg (Int32.not_lt.mpr h60), if_neg (Int32.not_lt.mpr hh.1), if_pos hh.2, if_pos hA]
      obtain ⟨W, hW, hwe⟩ := nI_of2 (M := 60) (n := 60) (by decide) (show ¬ a 2 < 0 from fun h9 => absurd (Int32.lt_of_lt_of_le h9 (show (0 : Int32) ≤ 12 by decide)) (Int32.not_lt.mpr h12)) h60
      have ha3 : a 3 = bZ (decide (a 3 = 1)) := by
        rcases hh2 with h | h
        · rw [h]; rfl
        · rw [h]; rfl
      rw [hwe, nI_clamp (by omega)]
      generalize decide (a 3 = 1) = ls at ha3
      rw [ha3, R.1.2.1]
      simp only [bS]
      rw [show some (g.1 e) = (some e).map g.1 from rfl, g91_o H w0 (o := some e) (fun x hx => by cases hx; exact hel)]
      simp only [bS]
      have hx : ∀ x, cnt σ.2.1 40 (some e) = some x → x < σ.2.1.length ∧ (eCm (gE σ.2.1 x)).isSome = true := fun x hx => cnt_lt w0 40 (some e) x (fun y hy => by cases hy; exact hel) hx
      have hpg := pag_pl (es := σ.2.1) e W ls
      generalize cnt σ.2.1 40 (some e) = x at hx hpg ⊢
      obtain ⟨pv1, pv2⟩ := plI_v w0 (x := x) fun e he => (hx e he).1
      obtain ⟨C1, C2, C3, a1, a2, a3, P3, E1, E2, E3⟩ := g125_p R w hx
      generalize hpl : plI σ.2.1 x = pl at pv1 pv2 P3 hpg
      have hT0 := R.1
      have t1 : ∀ X, pnE C X → cR X 0 3 = some 8 ∧ cR X 0 1 = some 3 := fun X EX => ⟨by rw [(EX.1 0 (by decide)).2.1]; exact hT0.2.2.2.1, by rw [(EX.1 0 (by decide)).2.1]; exact hT0.2.1⟩
      rw [R.1.2.2.2.1]
      simp only [bS]
      rw [a1]
      simp only [bS]
      rw [(t1 C1 E1).1]
      simp only [bS]
      rw [(t1 C1 E1).2, a2]
      simp only [bS]
      rw [(t1 C2 E2).1]
      simp only [bS]
      rw [a3]
      simp only [bS]
      rw [(t1 C3 E3).1]
      simp only [bS]
      rw [(t1 C3 E3).2]
      -- the links
      have hpt : g.2.2.2.2.2.1 = 168 ∨ g.2.2.2.2.2.1 = 173 := by have := R.2.2.2.2.1.2.2.2; omega
      obtain ⟨p, hp⟩ : ∃ p, p = g.2.2.2.2.2.1 := ⟨_, rfl⟩
      rw [← hp] at hpt
      have Q := R.pq hpt
      have q : ∀ a, (0 < a ∧ a < 8) ∨ (14 < a ∧ a < 18) → pQ p a := fun a ha => ⟨by omega, by omega, by omega⟩
      have A3 := R.2.2.2.2.2.2.1.pn E3
      have K3 : lkE (lkZ C g σ.2.1.length) (pQ p) C C3 := lkE.of (E3.1.mono fun a ha => by have := ha.2.1; simp; omega)
      obtain ⟨C4, b1, b2, b3, b4, b5⟩ := g23_s R w Q (q 3 (by decide)) (q 4 (by decide)) K3 A3.2.1 A3.2.2.1 P3 pv2 pv1
      rw [b1]
      simp only [bS]
      have c0 : ∀ k, cR C4 0 k = cR C 0 k := fun k => by rw [(b4 0 (by decide)).2.1, (E3.1 0 (by decide)).2.1]
      rw [c0, hT0.2.2.2.1]
      simp only [bS]
      rw [c0, hT0.2.2.2.2.2.2.2, ← hp]
      -- what holds behind
      have H4 := cE_lk R w b2 Q (q 3 (by decide)) (q 4 (by decide))
      have A4 : cAux C4 := A3.kp b4 fun a h1 h2 => by omega
      have P4 : plC C4 g pl := ⟨by rw [(b4 8 (by decide)).1]; exact P3.1, fun i hi => by rw [(b4 9 (by decide)).2.1]; exact P3.2 i hi⟩
      have S4 : cPgS C4 p := by
        have : cPgS C3 p := (hp ▸ R.2.2.2.2.1.2.2.1 : cPgS C p).kp E3.1 fun i hi => by simp; omega
        exact this.kp b4 fun i hi => by omega
      have rg := R.2.2.2.2.2.2.2.2
      have HE : ∀ D, lwE p (uI C4 8 7 (nI W)) D → cE D g.1 g.2.1 g.2.2.1 σ.2.1 := fun D ED => by
        have O1 : eqO (pQ p) C4 (uI C4 8 7 (nI W)) := eqO.uI fun h9 => by have := h9.2.1; omega
        exact cE_lk R w (b2.tr (lkE.of (O1.tr ED.k))) Q (q 3 (by decide)) (q 4 (by decide))
      have np : ∀ e, e < σ.2.1.length → ∀ i, i < 4 → g.1 e + i ≠ p ∧ g.1 e + i ≠ p + 1 ∧ g.1 e + i ≠ p + 2 ∧ g.1 e + i ≠ p + 3 := fun e he i hi => by
        have := (Q (g.1 e + i) (by rw [rg.1 e he i hi]; omega)).2.2
        omega
      have hc : ∀ q ∈ pl, ∀ i, i < 150 → 15 ≤ g.2.2.1 q.1 + i ∧ (g.2.2.1 q.1 + i < p ∨ p + 5 ≤ g.2.2.1 q.1 + i) := fun q hq i hi => by
        have h1 := vI_r R w (pv1 q hq) hi
        have h2 := (pv1 q hq).1
        have h3 : ∀ x, x < 18 → g.2.2.1 q.1 + i ≠ x := fun x hx => rg.ne (Or.inl hx) (by omega)
        have h4 := h3 (g.2.2.1 q.1 + i)
        exact ⟨by omega, (Q _ (by omega)).2.2⟩
      have HB : ∀ q ∈ pl, blE C4 g σ.2.1 q := fun q hq => by
        have hv := pv1 q hq
        have hm := (vI_c w hv).1
        obtain ⟨x1, x2, x3⟩ := (H4.2.2 q.1 hv.1).2.2.2.2.2.2 _ hm
        rcases (H4.2.2 q.1 hv.1).2.2.2.2.2.1 with xs | xs
        · rw [xs.2] at hm
          cases hm
        · exact ⟨x3.1, x3.2, xs.2, b5 q hq⟩
      obtain ⟨C5, d, d1, d2, d3, d4, d5, d6, d7, d8⟩ := g24_s (p := p) (by omega) H.2.1 w0 hW ls HE np pv1 hc HB A4 P4 pv2 S4 hel w1
      rw [show Option.map g.1 (some e) = some (g.1 e) from rfl, d1]
      simp only [bS]
      have O1 : eqO (fun a => a ≠ 8) C4 (uI C4 8 7 (nI W)) := eqO.uI fun h9 => h9 rfl
      have O5 : eqO (fun a => (a < 8 ∨ 14 < a) ∧ (a < p ∨ p + 5 ≤ a)) C4 C5 := (O1.mono fun a ha => by omega).tr (d8.1.mono fun a ha => ⟨by simp; omega, ha.2⟩)
      have z5 : ∀ k, cR C5 0 k = cR C 0 k := fun k => by rw [(O5 0 (by omega)).2.1]; exact c0 k
      have K5 : lkE (lkZ C g σ.2.1.length) (pQ p) C C5 := b2.tr (lkE.of (O5.mono fun a ha => ha.2))
      have s5 : sm C C5 := (E3.2.2.2.2.tr b3).tr ⟨d8.2.2.2.2.1, d8.2.2.2.2.2⟩
      have A5 : cAux C5 := by
        obtain ⟨⟨x1, n, x2⟩, y1, y2, _⟩ := A4
        have g9 := d8.1 9 ⟨by decide, by omega⟩
        exact ⟨⟨by rw [(O5 5 (by omega)).2.1]; exact x1, n, x2.kp O5 (by omega) (by omega)⟩, by rw [d8.2.1]; exact y1, by rw [g9.2.2]; exact y2, ⟨d7.1.1, d7.2.1⟩, d7.1.2.1, d7.1.2.2, d7.2.2.2.1.1, d7.2.2.2.1.2, d7.2.2.2.2.1, d7.2.2.2.2.2⟩
      have S5 : cPgS C5 p := by
        refine ⟨d3.1.1.1, d3.1.1.2.1, d3.1.1.2.2, d4.1, d4.2.1, ?_⟩
        rcases d3.2 with ⟨t, _⟩ | ⟨_, t, _⟩
        · exact ⟨_, t⟩
        · exact t
      have T5 : cTop C5 g.2.2.2.1 g.2.2.2.2.1 p := by
        unfold cTop
        simp only [z5]
        rw [hp]
        exact hT0
      rw [z5, hT0.2.2.2.2.2.2.2, ← hp]
      simp only [bS]
      rw [hpg]
      rcases pgW_cases d3 with ⟨f0, hle⟩ | ⟨f1, hgt⟩
      · -- it fits
        have hd : d = layAll σ.2.1 W ls (pl.map (bkI σ.2.1)) none (pg0 σ.2.1 e) := by
          refine d2.resolve_right fun h9 => ?_
          have m1 := tgts_mono (es := σ.2.1) d.2.1 1 (if d.2.1 = [] then d.1 else ouL d.1 [])
          have m2 : d.1.1.length ≤ (if d.2.1 = [] then d.1 else ouL d.1 []).1.length := by
            by_cases h8 : d.2.1 = []
            · rw [if_pos h8]
              exact Nat.le_refl _
            · rw [if_neg h8, ouL_len]
              omega
          have m3 : (tgO σ.2.1 d).1.length = (tgts σ.2.1 1 d.2.1 (if d.2.1 = [] then d.1 else ouL d.1 [])).1.length := rfl
          omega
        rw [← hd]
        have hle2 : ¬ 4000 < (pgF σ.2.1 d).1.length := by
          have : (pgF σ.2.1 d).1.length = (tgO σ.2.1 d).1.length := rfl
          omega
        rw [if_pos f0, if_neg hle2]
        simp only [bS]
        have ex := d3.2.resolve_right fun h9 => by rw [f0] at h9; exact absurd h9.1 (by decide)
        obtain ⟨t, ⟨n1, n2⟩, n6, _⟩ := ex
        rw [List.append_nil] at t
        have cp : cPg C5 p g.1 (pgF σ.2.1 d) := ⟨t, ⟨n1, n2⟩, ⟨d4.2.2.1, d4.2.2.2⟩, d6, n6⟩
        obtain ⟨C6, hC6⟩ : ∃ X, X = uR (uR C5 0 7 (cR C5 0 6)) 0 6 (some p) := ⟨_, rfl⟩
        have O6 : eqO (fun a => a ≠ 0) C5 C6 := by rw [hC6]; exact (eqO.uR (fun h9 => h9 rfl)).tr (eqO.uR (fun h9 => h9 rfl))
        have s6 : sm C5 C6 := by rw [hC6]; exact ⟨rfl, rfl⟩
        have z6 : ∀ k, k ≠ 6 → k ≠ 7 → cR C6 0 k = cR C 0 k := fun k h6 h7 => by rw [hC6, uR_n (by omega), uR_n (by omega)]; exact z5 k
        have T6 : cTop C6 g.2.2.2.1 p g.2.2.2.2.1 := by
          obtain ⟨u0, u1, u2, u3, u4, u5, u6, u7⟩ := hT0
          refine ⟨by rw [z6 0 (by decide) (by decide)]; exact u0, by rw [z6 1 (by decide) (by decide)]; exact u1, by rw [z6 2 (by decide) (by decide)]; exact u2, by rw [z6 3 (by decide) (by decide)]; exact u3, by rw [z6 4 (by decide) (by decide)]; exact u4, by rw [z6 5 (by decide) (by decide)]; exact u5, by rw [hC6, uR_e], ?_⟩
          rw [hC6, uR_n (by omega), uR_e, z5]
          exact u6
        rw [← hC6]
        rw [T6.2.2.2.2.2.2.1]
        simp only [bS]
        have cp6 := cp.kp O6 fun i hi => by omega
        rw [cp6.2.1.1]
        obtain ⟨r1, r2⟩ := CR_page R w hp (K5.tr (lkE.of (O6.mono fun a ha => ha.1))) (s5.tr s6) (A5.kp O6 fun a h1 h2 => by omega) (S5.kp O6 fun i hi => by omega) (Or.inr ⟨rfl, rfl⟩) T6 cp6
        have wb : ∀ c ∈ (pgF σ.2.1 d).1, c < 256 := fun c hc => by
          have hc : c ∈ (tgO σ.2.1 d).1 := hc
          obtain ⟨i, hi, rfl⟩ := List.mem_iff_getElem.mp hc
          have := (t.2.2.2.2.2 i hi).1
          rw [List.getD_eq_getElem?_getD, List.getElem?_eq_getElem hi] at this
          exact this
        exact ⟨C6, _, rfl, r1, r2, w.1, w.2.1, w.2.2.1, pgF_w w0 hW pv2 pv1 hd (by omega) wb d5, w.2.2.2.2⟩
      · -- it is too long
        have hgt2 : 4000 < (pgF σ.2.1 (layAll σ.2.1 W ls (pl.map (bkI σ.2.1)) none (pg0 σ.2.1 e))).1.length := by
          rcases d2 with hd | hd
          · rw [← hd]
            exact hgt
          · generalize layAll σ.2.1 W ls (pl.map (bkI σ.2.1)) none (pg0 σ.2.1 e) = dF at hd ⊢
            have m1 := tgts_mono (es := σ.2.1) dF.2.1 1 (if dF.2.1 = [] then dF.1 else ouL dF.1 [])
            have m2 : dF.1.1.length ≤ (if dF.2.1 = [] then dF.1 else ouL dF.1 []).1.length := by
              by_cases h8 : dF.2.1 = []
              · rw [if_pos h8]
                exact Nat.le_refl _
              · rw [if_neg h8, ouL_len]
                omega
            have m3 : (pgF σ.2.1 dF).1.length = (tgts σ.2.1 1 dF.2.1 (if dF.2.1 = [] then dF.1 else ouL dF.1 [])).1.length := rfl
            omega
        rw [if_neg (show ¬ cI C5 p 8 = 0 by rw [f1]; decide), if_pos hgt2]
        have hps : g.2.2.2.2.1 = 168 ∨ g.2.2.2.2.1 = 173 := by have := R.2.2.2.2.1.2.2.2; omega
        have hne : g.2.2.2.2.1 ≠ p := by have := R.2.2.2.2.1.2.2.2; omega
        have cps : cPg C5 g.2.2.2.2.1 g.1 σ.2.2.2.1 := by
          have h1 : cPg C3 g.2.2.2.2.1 g.1 σ.2.2.2.1 := R.2.2.2.2.1.1.kp E3.1 fun i hi => by simp; omega
          have h2 : cPg C4 g.2.2.2.2.1 g.1 σ.2.2.2.1 := h1.kp b4 fun i hi => by omega
          exact h2.kp O5 fun i hi => by omega
        obtain ⟨r1, r2⟩ := CR_page R w hp K5 s5 A5 S5 (Or.inl ⟨rfl, rfl⟩) T5 cps
        exact ⟨C5, _, rfl, r1, r2, w⟩
    · rw [if_neg hA]
      refine ⟨C, g, ?_, R, Kp.rfl', w⟩
      by_cases h1 : a 2 < 12
      · rw [if_pos h1]
      · rw [if_neg h1]
        by_cases h2 : 60 < a 2
        · rw [if_pos h2]
        · rw [if_neg h2]
          by_cases h3 : a 3 < 0
          · rw [if_pos h3]
          · rw [if_neg h3]
            by_cases h4 : a 3 ≤ 1
            · exact absurd ⟨Int32.not_lt.mp h1, Int32.not_lt.mp h2, (how01 (a 3)).mp ⟨Int32.not_lt.mp h3, h4⟩⟩ hA
            · rw [if_neg h4]
end PCPA
