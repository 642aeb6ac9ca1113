section PC24
variable {C C' C0 C1 C2 D : xC} {w p : Nat} {g : Gh} {es : List En} {pl : List (Nat × Nat)}
/-- the page with its targets -/
def tgO (es : List En) (d : Dr) : Ou := tgts es 1 d.2.1 (if d.2.1 = [] then d.1 else ouL d.1 [])
theorem apB_a (b : Bk) (a : Option Bk) : apart a b = apB b a := by cases a <;> rfl
/-- the block before -/
def prv (C0 : xC) (p : Nat) (y : Option Nat) (a : Option Bk) : Prop := match a with
  | none => y = none
  | some a => ∃ z, y = some z ∧ bSo a ≤ 7 ∧ ∀ D, lwE p C0 D → cI D z 1 = nI (bSo a)
theorem pgW_cases {o : Ou} (W : pgW C p o []) : (cI C p 8 = 0 ∧ o.1.length ≤ 4000) ∨ (cI C p 8 = 1 ∧ 4000 < o.1.length) := by
  rcases W.2 with ⟨t, _, _, _, n8⟩ | ⟨n8, _, _, hl⟩
  · have := t.2.2.2.2.1
    rw [List.append_nil] at this
    exact Or.inl ⟨n8, this⟩
  · rw [List.append_nil] at hl
    exact Or.inr ⟨n8, hl⟩
/-- the planned blocks -/
theorem g24_l (hp : 20 ≤ p) (inj : ∀ i j, i < es.length → j < es.length → g.1 i = g.1 j → i = j) (w0 : wE es) (hw : w ≤ 60) (ls : Bool) (HE : ∀ D, lwE p C0 D → cE D g.1 g.2.1 g.2.2.1 es) (np : ∀ e, e < es.length → ∀ i, i < 4 → g.1 e + i ≠ p ∧ g.1 e + i ≠ p + 1 ∧ g.1 e + i ≠ p + 2 ∧ g.1 e + i ≠ p + 3) (hv : ∀ q ∈ pl, vI es q) (hc : ∀ q ∈ pl, ∀ i, i < 150 → 15 ≤ g.2.2.1 q.1 + i ∧ (g.2.2.1 q.1 + i < p ∨ p + 5 ≤ g.2.2.1 q.1 + i)) (HB : ∀ q ∈ pl, blE C0 g es q) (h0 : cR C0 8 0 = some 9) (hK : (cK C0 9).2 = 960) (P : plC C0 g pl) (hl : pl.length ≤ 960) (y2 : Option Nat) (x3 : Int32) : ∀ m n k d ah (y : Option Nat) (C : xC), k + m = pl.length → m < n → lwE p C0 C → lyV C w → pgR C p g es.length d → d.1.1.length ≤ 130000 → prv C0 p y ah → ∃ C' d', gl24_24 n 8 (some p) y2 x3 (bZ ls) y (nI k) C = some C' ∧ (d' = layAll es w ls ((pl.drop k).map (bkI es)) ah d ∨ (4000 < d'.1.1.length ∧ 4000 < (layAll es w ls ((pl.drop k).map (bkI es)) ah d).1.1.length)) ∧ pgW C' p (tgO es d') [] ∧ tgC C' p g d'.2.1 ∧ tOK es.length d'.2.1 ∧ cI C' p 5 = nI d'.2.2 ∧ lyV C' w ∧ lwE p C0 C' := by
  have fin : ∀ (C : xC) (d : Dr) (y : Option Nat) (x6 : Int32), lwE p C0 C → lyV C w → pgR C p g es.length d → d.1.1.length ≤ 130000 → ∃ C', gj24_95 8 (some p) y2 x3 (bZ ls) y x6 C = some C' ∧ pgW C' p (tgO es d) [] ∧ tgC C' p g d.2.1 ∧ tOK es.length d.2.1 ∧ cI C' p 5 = nI d.2.2 ∧ lyV C' w ∧ lwE p C0 C' := fun C d y x6 E V R hd => by
    obtain ⟨X, x1, x2, x3, x4, x5, x6⟩ := g26_s hp w0 HE np E V R (by omega)
    unfold gj24_95
    rw [x1]
    simp only [bS]
    exact ⟨X, rfl, x2, x3, R.2.2.2.1, x4, x5, x6⟩
  intro m
  induction m with
  | zero =>
    intro n k d ah y C hk hn E V R hd _
    obtain ⟨n, rfl⟩ : ∃ x, n = x + 1 := ⟨n - 1, by omega⟩
    rw [gl24_24]
    dsimp only
    rw [E.2.2.1 1 (by simp), P.1, if_pos (nI_le (by omega) (by omega)), List.drop_eq_nil_of_le (by omega)]
    obtain ⟨X, h⟩ := fin C d y (nI k) E V R hd
    exact ⟨X, d, h.1, Or.inl rfl, h.2⟩
  | succ m ih =>
    intro n k d ah y C hk hn E V R hd hpr
    obtain ⟨n, rfl⟩ : ∃ x, n = x + 1 := ⟨n - 1, by omega⟩
    have hkl : k < pl.length := by omega
    have hqm := gD_mem (l := pl) (i := k) (d := (0, 0)) hkl
    have hdr : pl.drop k = pl.getD k (0, 0) :: pl.drop (k + 1) := by
      rw [List.drop_eq_getElem_cons hkl, List.getD_eq_getElem?_getD, List.getElem?_eq_getElem hkl]
      rfl
    have p9 := P.2 k hkl
    have hmv : ∀ q ∈ pl.drop (k + 1), vI es q := fun q hq => hv q (List.mem_of_mem_drop hq)
    generalize pl.getD k (0, 0) = q at hqm hdr p9
    have hq := hv q hqm
    rw [gl24_24]
    dsimp only
    rw [E.2.2.1 1 (by simp), P.1, if_neg (nI_ge (by omega) (by omega))]
    simp only [bS]
    rw [hdr, List.map_cons, layAll_s]
    rcases pgW_cases R.1 with ⟨f0, hle⟩ | ⟨f1, hgt⟩
    · rw [if_pos f0, E.2.1, h0]
      simp only [bS]
      have q9 := E.1 9 ⟨by decide, by omega⟩
      rw [cLR_n (n := 960) (by omega) (by rw [q9.2.2]; exact hK) (by decide), q9.2.1, p9]
      simp only [bS]
      have HBq : ∀ D, lwE p C0 D → blE D g es q := fun D ED => (HB q hqm).kp w0 hq ED.1 fun i hi => by
        have := hc q hqm i hi
        refine ⟨?_, this.2⟩
        simp
        omega
      obtain ⟨v3, _, v4, _⟩ := (vI_w w0 hq).2
      have wb := v4 _ (gD_mem (d := bkD) hq.2.1)
      have bk := (HBq C E).2.1.1.2 q.2 hq.2.1
      have bks : ∀ D, lwE p C0 D → cI D (g.2.2.1 q.1 + 4 + q.2) 1 = nI (bSo ((gC es q.1).2.1.getD q.2 bkD)) := fun D ED => ((HBq D ED).2.1.1.2 q.2 hq.2.1).2.1
      rw [if_neg (show ¬ some (g.2.2.1 q.1 + 4 + q.2) = none by simp), bk.1, if_neg (show ¬ some (g.2.2.1 q.1) = none by simp)]
      have e25 : g25 y (some (g.2.2.1 q.1 + 4 + q.2)) C = some (bZ (apB ((gC es q.1).2.1.getD q.2 bkD) ah), C) := by
        cases ah with
        | none => exact g25_s bk.2.1 bk.2.2.2.2.2.2.2 wb.1 (a := none) hpr
        | some a =>
          obtain ⟨z, z1, z2, z3⟩ := hpr
          exact g25_s bk.2.1 bk.2.2.2.2.2.2.2 wb.1 (a := some a) ⟨z, z1, z3 C E, z2⟩
      rw [e25]
      simp only [bS, bZ_0]
      rw [← apB_a]
      -- the block
      have go : ∀ (U : xC) (d1 : Dr), lwE p C0 U → lyV U w → pgR U p g es.length d1 → d1.1.1.length ≤ 4001 → lay1 es w ls (apart ah ((gC es q.1).2.1.getD q.2 bkD)) q.1 ((gC es q.1).2.1.getD q.2 bkD) d = layB es w ls q.1 (gC es q.1) ((gC es q.1).2.1.getD q.2 bkD) d1 → ∃ C' d', gj24_76 (gl24_24 n) 8 (some p) y2 x3 (bZ ls) y (nI k) (some (g.2.2.1 q.1 + 4 + q.2)) U = some C' ∧ (d' = layAll es w ls ((pl.drop (k + 1)).map (bkI es)) (some ((gC es q.1).2.1.getD q.2 bkD)) (lay1 es w ls (apart ah ((gC es q.1).2.1.getD q.2 bkD)) q.1 ((gC es q.1).2.1.getD q.2 bkD) d) ∨ (4000 < d'.1.1.length ∧ 4000 < (layAll es w ls ((pl.drop (k + 1)).map (bkI es)) (some ((gC es q.1).2.1.getD q.2 bkD)) (lay1 es w ls (apart ah ((gC es q.1).2.1.getD q.2 bkD)) q.1 ((gC es q.1).2.1.getD q.2 bkD) d)).1.1.length)) ∧ pgW C' p (tgO es d') [] ∧ tgC C' p g d'.2.1 ∧ tOK es.length d'.2.1 ∧ cI C' p 5 = nI d'.2.2 ∧ lyV C' w ∧ lwE p C0 C' := fun U d1 EU VU RU hd1 he1 => by
        rw [he1]
        obtain ⟨_, _, hup, _⟩ := layB_len (w := w) (ls := ls) w0 hq.1 hq.2.1 hw (d := d1) RU.2.1
        obtain ⟨X, x1, x2, x3', x4⟩ := g28_s hp inj w0 hq (hc q hqm) (HBq U EU) hw VU RU (by omega) ls
        unfold gj24_76 gj24_89
        rw [x1]
        simp only [bS]
        rw [nI_1]
        generalize layB es w ls q.1 (gC es q.1) ((gC es q.1).2.1.getD q.2 bkD) d1 = d2 at hup x3' ⊢
        exact ih n (k + 1) d2 (some ((gC es q.1).2.1.getD q.2 bkD)) (some (g.2.2.1 q.1 + 4 + q.2)) X (by omega) (by omega) (EU.tr x4) x2 x3' (by omega) ⟨_, rfl, wb.1, bks⟩
      cases hap : apart ah ((gC es q.1).2.1.getD q.2 bkD) with
      | false =>
        rw [if_pos (Eq.refl false)]
        rw [hap] at go
        exact go C d E V R (by omega) (by unfold lay1; rw [if_neg (show ¬ false = true by decide)])
      | true =>
        rw [if_neg (show ¬ true = false by decide)]
        rw [hap] at go
        obtain ⟨W, how, T, hT, h5⟩ := R
        obtain ⟨X, x1, x2, x3'⟩ := g56_s W (by have := how.2; omega)
        rw [x1]
        simp only [bS]
        exact go X (ouL d.1 [], d.2) (E.tr (x3'.v.lw hp)) (V.v hp x3'.v) ⟨x2, ouL_w how _, T.v x3'.v, hT, by rw [x3'.2.2.2.1]; exact h5⟩ (by show (ouL d.1 []).1.length ≤ 4001; rw [ouL_len]; simp; omega) (by unfold lay1; rw [if_pos (Eq.refl true)])
    · rw [if_neg (show ¬ cI C p 8 = 0 by rw [f1]; decide)]
      obtain ⟨X, x1, x2⟩ := fin C d y (nI k) E V R hd
      refine ⟨X, d, x1, Or.inr ⟨hgt, ?_⟩, x2⟩
      obtain ⟨a1, a2, _, _⟩ := lay1_len (w := w) (ls := ls) w0 hw hq (apart ah ((gC es q.1).2.1.getD q.2 bkD)) R.2.1
      have a3 := (layAll_len (w := w) (ls := ls) w0 hw (pl.drop (k + 1)) (some ((gC es q.1).2.1.getD q.2 bkD)) _ hmv a1).2.1
      exact Nat.lt_of_lt_of_le hgt (Nat.le_trans a2 a3)
/-- the page -/
theorem g24_s (hp : 20 ≤ p) (inj : ∀ i j, i < es.length → j < es.length → g.1 i = g.1 j → i = j) (w0 : wE es) (hw : w ≤ 60) (ls : Bool) (HE : ∀ D, lwE p (uI C 8 7 (nI w)) D → cE D g.1 g.2.1 g.2.2.1 es) (np : ∀ e, e < es.length → ∀ i, i < 4 → g.1 e + i ≠ p ∧ g.1 e + i ≠ p + 1 ∧ g.1 e + i ≠ p + 2 ∧ g.1 e + i ≠ p + 3) (hv : ∀ q ∈ pl, vI es q) (hc : ∀ q ∈ pl, ∀ i, i < 150 → 15 ≤ g.2.2.1 q.1 + i ∧ (g.2.2.1 q.1 + i < p ∨ p + 5 ≤ g.2.2.1 q.1 + i)) (HB : ∀ q ∈ pl, blE C g es q) (A : cAux C) (P : plC C g pl) (hl : pl.length ≤ 960) (S : cPgS C p) {e : Nat} (he : e < es.length) (h40 : es.length ≤ 40) : ∃ C' d', g24 8 (some p) (some (g.1 e)) (nI w) (bZ ls) C = some C' ∧ (d' = layAll es w ls (pl.map (bkI es)) none (pg0 es e) ∨ (4000 < d'.1.1.length ∧ 4000 < (layAll es w ls (pl.map (bkI es)) none (pg0 es e)).1.1.length)) ∧ pgW C' p (tgO es d') [] ∧ tgC C' p g d'.2.1 ∧ tOK es.length d'.2.1 ∧ cI C' p 5 = nI d'.2.2 ∧ lyV C' w ∧ lwE p (uI C 8 7 (nI w)) C' := by
  obtain ⟨_, A0, A9, ⟨A2, l, TL⟩, A3, A12, A5, A13, A6, A14⟩ := A
  obtain ⟨s1, s2, s3, s4, s5, bs, s6⟩ := S
  have O1 : eqO (fun a => a ≠ 8) C (uI C 8 7 (nI w)) := eqO.uI (fun h9 => h9 rfl)
  unfold g24
  simp only [bS]
  have h7 : cI (uI C 8 7 (nI w)) 8 7 = nI w := uI_e
  have P1 : plC (uI C 8 7 (nI w)) g pl := ⟨by rw [uI_n (by omega)]; exact P.1, P.2⟩
  have HB1 : ∀ q ∈ pl, blE (uI C 8 7 (nI w)) g es q := fun q hq => (HB q hq).kp w0 (hv q hq) O1 fun i hi => by have := (hc q hq i hi).1; omega
  have T1 : TX (uI C 8 7 (nI w)) 10 11 1200 l := TL.kp O1 (by decide) (by decide)
  have T2 : TX (uI C 8 7 (nI w)) (p + 1) (p + 2) 4000 bs := s6.kp O1 (by omega) (by omega)
  have V1 : lyV (uI C 8 7 (nI w)) w := ⟨⟨A2, A3, A12⟩, ⟨l, T1⟩, h7, ⟨A5, A13⟩, A6, A14⟩
  generalize hD : uI C 8 7 (nI w) = C1 at HE P1 HB1 T1 T2 V1 O1 ⊢
  have a0 : cR C1 8 0 = some 9 := by rw [← hD]; exact A0
  have a9 : (cK C1 9).2 = 960 := by rw [← hD]; exact A9
  have S1 : pgS C1 p := by rw [← hD]; exact ⟨s1, s2, s3⟩
  have t1 : cR C1 p 2 = some (p + 4) := by rw [← hD]; exact s4
  have t2 : (cK C1 (p + 4)).2 = 40 := by rw [← hD]; exact s5
  clear hD h7
  obtain ⟨C2, b1, b2, b3, b4, b5, b6, b7⟩ := g51_s S1 T2
  rw [b1]
  simp only [bS]
  have E2 : lwE p C1 C2 := ⟨b5.mono fun a ha => ⟨by omega, by omega⟩, (b5 8 ⟨by omega, by omega⟩).2.1, fun k _ => (b5 8 ⟨by omega, by omega⟩).1 k, ⟨b6, (b5 8 ⟨by omega, by omega⟩).2.2⟩, b7⟩
  have V2 : lyV C2 w := V1.kp E2 ⟨⟨(b5 12 ⟨by omega, by omega⟩).2.2, (b5 13 ⟨by omega, by omega⟩).2.2, (b5 14 ⟨by omega, by omega⟩).2.2⟩, l, T1.kp b5 ⟨by omega, by omega⟩ ⟨by omega, by omega⟩⟩
  obtain ⟨C3, c1, c2, c3⟩ := g55_s w0 (fun D ED => HE D (E2.tr (ED.v.lw hp))) np he b2
  rw [c1]
  simp only [bS]
  obtain ⟨C4, d1, d2, d3⟩ := g56_s c2 (by decide)
  rw [d1]
  simp only [bS]
  have E24 := c3.tr d3
  have E4 : lwE p C1 C4 := E2.tr (E24.v.lw hp)
  have tg4 : tgC C4 p g [] := by
    have T9 : tgC C2 p g [] := ⟨by rw [b6]; exact t1, by rw [(b5 (p + 4) ⟨by omega, by omega⟩).2.2]; exact t2, b3, fun i hi => absurd hi (Nat.not_lt_zero _)⟩
    exact T9.v E24.v
  have e0 : ouW ([], [], 0) := ⟨Nat.le_refl _, Nat.le_refl _⟩
  rw [List.nil_append] at d2
  have R4 : pgR C4 p g es.length (pg0 es e) := ⟨d2, ouL_w e0 _, tg4, ⟨h40, List.nodup_nil, fun x hx => absurd hx (List.not_mem_nil)⟩, by rw [E24.2.2.2.1, b4]; rfl⟩
  have hn := eNam_len w0 he
  obtain ⟨X, d', x1, x2, x3⟩ := g24_l hp inj w0 hw ls HE np hv hc HB1 a0 a9 P1 hl (some (g.1 e)) (nI w) pl.length xFuel 0 (pg0 es e) none none C4 (by omega) (pFuel _ (by omega)) E4 (V2.v hp E24.v) R4 (by show (ouL ([], [], 0) (eNam es e)).1.length ≤ 130000; rw [ouL_len]; simp; omega) rfl
  rw [List.drop_zero] at x2
  exact ⟨X, d', x1, x2, x3⟩
end PC24
