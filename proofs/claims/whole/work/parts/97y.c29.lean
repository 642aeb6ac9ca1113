section PC29
variable {C C' C1 C2 D : xC} {p : Nat} {g : Gh} {es : List En} {c : Ck} {P : Nat → Prop} {q : Nat × Nat}
/-- a planned block: its comment, its links -/
def blE (C : xC) (g : Gh) (es : List En) (q : Nat × Nat) : Prop := TX C (g.2.2.1 q.1 + 1) (g.2.2.1 q.1 + 2) 600 (gC es q.1).1 ∧ cRd C (g.2.2.1 q.1) (gC es q.1).2 ∧ cSh C (g.2.2.1 q.1) ∧ lkOK C g es q
theorem vI_w (w : wE es) {q : Nat × Nat} (h : vI es q) : wC (gC es q.1) := by
  have h2 := h.2.1
  unfold gC at h2 ⊢
  cases hc : eCm (gE es q.1) with
  | none => rw [hc] at h2; exact absurd h2 (Nat.not_lt_zero _)
  | some c => exact (w.2 q.1 h.1).2.2.2.2.2.2.2.2 c hc
theorem blE.kp (B : blE C g es q) (w : wE es) (hq : vI es q) (E : eqO P C C') (h : ∀ i, i < 150 → P (g.2.2.1 q.1 + i)) : blE C' g es q := by
  obtain ⟨b1, b2, b3, b4, b5⟩ := B
  obtain ⟨_, v1, v2, v3, _⟩ := vI_w w hq
  have wb := v3 _ (gD_mem (d := bkD) hq.2.1)
  have hk := hq.2.1
  have b8 := wb.2.2.2.1
  refine ⟨b1.kp E (h 1 (by omega)) (h 2 (by omega)), b2.kp E (by omega) v2 h, b3.kp E h, ?_, fun i hi hp => ?_⟩
  · have := h (4 + q.2) (by omega)
    rw [← Nat.add_assoc] at this
    rw [(E _ this).2.1]
    exact b4
  · have := h (30 + (bFi ((gC es q.1).2.1.getD q.2 bkD) + i)) (by omega)
    rw [← Nat.add_assoc] at this
    rw [(E _ this).2.1]
    exact b5 i hi hp
/-- the frame of cutting in chunks, with the page's targets -/
def ckE (p : Nat) (C C' : xC) : Prop := eqO (fun a => a ∉ [8, 10, 11, 12] ∧ a ≠ p ∧ a ≠ p + 4) C C' ∧ (∀ k, cR C' 8 k = cR C 8 k) ∧ (∀ k, k ≠ 4 → cI C' 8 k = cI C 8 k) ∧ (cK C' 12 = cK C 12 ∧ cK C' 8 = cK C 8) ∧ ((∀ k, cR C' p k = cR C p k) ∧ ∀ k, k ≠ 4 → cI C' p k = cI C p k) ∧ sm C C'
theorem ckE.rfl' : ckE p C C := ⟨eqO.rfl', fun _ => rfl, fun _ _ => rfl, ⟨rfl, rfl⟩, ⟨fun _ => rfl, fun _ _ => rfl⟩, sm.rfl'⟩
theorem ckE.tr (a : ckE p C C1) (b : ckE p C1 C2) : ckE p C C2 := ⟨a.1.tr b.1, fun k => (b.2.1 k).trans (a.2.1 k), fun k hk => (b.2.2.1 k hk).trans (a.2.2.1 k hk), ⟨b.2.2.2.1.1.trans a.2.2.2.1.1, b.2.2.2.1.2.trans a.2.2.2.1.2⟩, ⟨fun k => (b.2.2.2.2.1.1 k).trans (a.2.2.2.2.1.1 k), fun k hk => (b.2.2.2.2.1.2 k hk).trans (a.2.2.2.2.1.2 k hk)⟩, a.2.2.2.2.2.tr b.2.2.2.2.2⟩
theorem ckE.of (hp : 20 ≤ p) (E : lyE C C') : ckE p C C' := by
  have e := E.1 p (by simp; omega)
  exact ⟨E.1.mono fun a ha => ha.1, E.2.1, E.2.2.1, E.2.2.2.1, ⟨e.2.1, fun k _ => e.1 k⟩, E.2.2.2.2⟩
theorem lyS.ck (S : lyS C) (E : ckE p C C') : lyS C' := ⟨by rw [E.2.1]; exact S.1, by rw [E.2.1]; exact S.2.1, by rw [E.2.2.2.1.1]; exact S.2.2⟩
theorem ckC.t {l : List Nat} (K : ckC C c) (T : TX C' 10 11 1200 l) (E : eqO (fun a => a ≠ 10 ∧ a ≠ 11) C C') : ckC C' (l, c.2.1, c.2.2) := ⟨T, by rw [(E 8 (by decide)).1]; exact K.2.1, fun i hi => by rw [(E 12 (by decide)).1]; exact K.2.2 i hi⟩
theorem tgC.kp {ts : List Nat} (T : tgC C p g ts) (E : eqO P C C') (h1 : P p) (h2 : P (p + 4)) : tgC C' p g ts := ⟨by rw [(E _ h1).2.1]; exact T.1, by rw [(E _ h2).2.2]; exact T.2.1, by rw [(E _ h1).1]; exact T.2.2.1, fun i hi => by rw [(E _ h2).2.1]; exact T.2.2.2 i hi⟩
/-- a mark behind the bytes -/
theorem mk_s (hp : 20 ≤ p) (inj : ∀ i j, i < es.length → j < es.length → g.1 i = g.1 j → i = j) (K : ckC C c) (T : tgC C p g c.2.2) (hT : tOK es.length c.2.2) {t : Option Nat} (ht : ∀ e, t = some e → e < es.length) (hr : c.1.length + 4 ≤ 1200) : ∃ k C1 C', g58 p (t.map g.1) C = some (k, C1) ∧ g27 (some 10) k C1 = some C' ∧ ckC C' (c.1 ++ (mark c.2.2 t).1, c.2.1, (mark c.2.2 t).2) ∧ tgC C' p g (mark c.2.2 t).2 ∧ tOK es.length (mark c.2.2 t).2 ∧ ckE p C C' := by
  have h40 : c.2.2.length ≤ 40 := Nat.le_trans (nd_len _ _ hT.2.1 hT.2.2) hT.1
  obtain ⟨D, d1, d2, d3, d4, d5, d6⟩ := g58_s T inj hT.2.2 h40 (t := t) fun e he => ⟨ht e he, fun hn => (hT.add (ht e he) hn).2⟩
  have e1 : ∀ t : Option Nat, (∀ e, t = some e → e < es.length) → (match t with
    | none => 0
    | some e => c.2.2.findIdx (fun x => x == e) + 1) ≤ 40 := fun t ht => by
    cases t with
    | none => exact Nat.zero_le _
    | some e =>
      dsimp only
      have h1 : c.2.2.findIdx (fun x => x == e) ≤ c.2.2.length := List.findIdx_le_length
      by_cases hm : e ∈ c.2.2
      · have := List.findIdx_lt_length_of_exists (xs := c.2.2) (p := fun x => x == e) ⟨e, hm, by simp⟩
        omega
      · have := (hT.add (ht e rfl) hm).2
        omega
  have TD : TX D 10 11 1200 c.1 := K.1.kp d3 ⟨by omega, by omega⟩ ⟨by omega, by omega⟩
  have x8 := d3 8 ⟨by omega, by omega⟩
  have x12 := d3 12 ⟨by omega, by omega⟩
  obtain ⟨V, v1, v2, v3, v4⟩ := g27_s TD (by decide) hr (e1 t ht)
  have v2 : TX V 10 11 1200 (c.1 ++ (mark c.2.2 t).1) := by rw [mark_b]; exact v2
  have KD : ckC D (c.1, c.2.1, (mark c.2.2 t).2) := ⟨TD, by rw [x8.1]; exact K.2.1, fun i hi => by rw [x12.1]; exact K.2.2 i hi⟩
  refine ⟨_, D, V, d1, v1, KD.t v2 v3, d2.kp v3 ⟨by omega, by omega⟩ ⟨by omega, by omega⟩, (mark_ok hT ht).1, ckE.tr ⟨d3.mono fun a ha => ha.2, x8.2.1, fun k _ => x8.1 k, ⟨x12.2.2, x8.2.2⟩, ⟨d4, d5⟩, d6⟩ (ckE.of hp (lyE.t v3 v4))⟩
/-- the head of a tag -/
theorem g30_s (hp : 20 ≤ p) (inj : ∀ i j, i < es.length → j < es.length → g.1 i = g.1 j → i = j) (w : wE es) {q : Nat × Nat} (hq : vI es q) (B : blE C g es q) (hc : ∀ i, i < 150 → 15 ≤ g.2.2.1 q.1 + i ∧ g.2.2.1 q.1 + i ≠ p ∧ g.2.2.1 q.1 + i ≠ p + 4) (S : lyS C) {ts : List Nat} (K : ckC C ([], [], ts)) (T : tgC C p g ts) (hT : tOK es.length ts) {b : Bk} (hb : (gC es q.1).2.1.getD q.2 bkD = b) (htg : isTg (bSo b) = true) : ∃ C', g30 8 (some p) (some (g.2.2.1 q.1 + 4 + q.2)) (some (g.2.2.1 q.1 + 1)) C = some C' ∧ ckC C' (ckHd es q.1 (gC es q.1).1 b ts) ∧ tgC C' p g (ckHd es q.1 (gC es q.1).1 b ts).2.2 ∧ tOK es.length (ckHd es q.1 (gC es q.1).1 b ts).2.2 ∧ cI C' 12 (ckHd es q.1 (gC es q.1).1 b ts).2.1.length = nI (ckHd es q.1 (gC es q.1).1 b ts).1.length ∧ ckE p C C' := by
  have wc := vI_w w hq
  obtain ⟨wt, v1, v2, v3, _⟩ := wc
  have wb := v3 _ (gD_mem (d := bkD) hq.2.1)
  rw [hb] at wb
  have hk := hq.2.1
  have hs := isTg_iff.mp htg
  have hE : ∀ D : xC, ckE p C D → blE D g es q := fun D ED => B.kp w hq ED.1 fun i hi => by
    have := hc i hi
    refine ⟨?_, this.2⟩
    simp
    omega
  have hx : ∀ D : xC, ckE p C D → cBk D (g.2.2.1 q.1) (g.2.2.1 q.1 + 4 + q.2) b := fun D ED => by
    have := (hE D ED).2.1.1.2 q.2 hk
    rwa [hb] at this
  -- the end of it
  have e74 : ∀ (D : xC) (k : Ck), ckE p C D → ckC D k → tgC D p g k.2.2 → tOK es.length k.2.2 → k.2.1.length = 1 → k = ckHd es q.1 (gC es q.1).1 b ts → ∃ C', gj30_74 8 (some p) (some (g.2.2.1 q.1 + 4 + q.2)) (some (g.2.2.1 q.1 + 1)) D = some C' ∧ ckC C' (ckHd es q.1 (gC es q.1).1 b ts) ∧ tgC C' p g (ckHd es q.1 (gC es q.1).1 b ts).2.2 ∧ tOK es.length (ckHd es q.1 (gC es q.1).1 b ts).2.2 ∧ cI C' 12 (ckHd es q.1 (gC es q.1).1 b ts).2.1.length = nI (ckHd es q.1 (gC es q.1).1 b ts).1.length ∧ ckE p C C' := fun D k ED KD TD hTD h1 hk => by
    subst hk
    obtain ⟨V, x1, x2, x3, x4⟩ := g32_s (S.ck ED) KD (by omega)
    unfold gj30_74
    rw [x1]
    simp only [bS]
    exact ⟨V, rfl, x2, TD.kp x4.1 (by simp; omega) (by simp; omega), hTD, x3, ED.tr (ckE.of hp x4)⟩
  -- behind the name
  have e52 : ∀ (D : xC) (l : List Nat), ckE p C D → ckC D (l, [0], ts) → tgC D p g ts → l.length ≤ 40 → l = wTag (bSo b) ++ (if bSo b = 3 then [] else 32 :: cut (gC es q.1).1 (bNf b) (bNt b)) → ∃ C', gj30_52 8 (some p) (some (g.2.2.1 q.1 + 4 + q.2)) (some (g.2.2.1 q.1 + 1)) D = some C' ∧ ckC C' (ckHd es q.1 (gC es q.1).1 b ts) ∧ tgC C' p g (ckHd es q.1 (gC es q.1).1 b ts).2.2 ∧ tOK es.length (ckHd es q.1 (gC es q.1).1 b ts).2.2 ∧ cI C' 12 (ckHd es q.1 (gC es q.1).1 b ts).2.1.length = nI (ckHd es q.1 (gC es q.1).1 b ts).1.length ∧ ckE p C C' := fun D l ED KD TD hl hle => by
    unfold gj30_52
    simp only [bS]
    rw [g1_s (hx D ED).2.1 (by omega)]
    simp only [bS, bZ_0]
    by_cases h4 : bSo b = 4 ∨ bSo b = 5
    · rw [decide_eq_true h4, if_neg (show ¬ true = false by decide)]
      have l9 := (hE D ED).2.2.2.1
      rw [hb, if_pos h4] at l9
      rw [l9]
      obtain ⟨k, V, W, x1, x2, x3, x4, x5, x6⟩ := mk_s hp inj KD TD hT (t := lead es q.1 (cut (gC es q.1).1 (bNf b) (bNt b))) (fun e he => lead_lt w he) (by dsimp only; omega)
      rw [x1]
      simp only [bS]
      rw [(S.ck ED).1, x2]
      simp only [bS]
      refine e74 W _ (ED.tr x6) x3 x4 x5 rfl ?_
      unfold ckHd
      rw [if_pos htg, if_pos h4, hle]
    · rw [decide_eq_false h4, if_pos (Eq.refl false)]
      refine e74 D _ ED KD TD hT rfl ?_
      unfold ckHd
      rw [if_pos htg, if_neg h4, hle]
      dsimp only
      rw [List.append_nil]
  obtain ⟨C1, c1, c2, c3⟩ := g31_s S K (show 0 < 121 by decide)
  have E1 := ckE.of hp c3
  have T1 : tgC C1 p g ts := T.kp c3.1 (by simp; omega) (by simp; omega)
  obtain ⟨w1, w2⟩ := wQ_t (bSo b) hs.1 hs.2
  unfold g30
  rw [c1]
  simp only [bS]
  rw [(hx C1 E1).2.1, g139_s (bSo b) hs.1 hs.2]
  simp only [bS]
  rw [(S.ck E1).1]
  simp only [bS]
  obtain ⟨C2, a1, a2, a3, a4⟩ := g99_o c2.1 (by decide) (q := bSo b + 1) (by omega) (by rw [w1]; simp; omega)
  rw [a1]
  simp only [bS]
  have E2 : ckE p C C2 := E1.tr (ckE.of hp (lyE.t a3 a4))
  have K2 := c2.t a2 a3
  have T2 : tgC C2 p g ts := T1.kp a3 ⟨by omega, by omega⟩ ⟨by omega, by omega⟩
  rw [(hx C2 E2).2.1]
  rw [w1, List.nil_append] at K2
  have w3 := w2
  by_cases h3 : bSo b = 3
  · rw [if_pos (by rw [h3]; rfl)]
    exact e52 C2 _ E2 K2 T2 (by omega) (by rw [if_pos h3, List.append_nil])
  · rw [if_neg (show ¬ _ = (3 : Int32) from nI_ne h3 (by omega) (by decide)), (S.ck E2).1]
    simp only [bS]
    obtain ⟨C3, b1, b2, b3, b4⟩ := g97_s K2.1 (by dsimp only; omega) (by decide) (nI 32)
    rw [show (32 : Int32) = nI 32 from rfl, b1]
    simp only [bS]
    rw [bOf_nI (by decide)] at b2
    have E3 : ckE p C C3 := E2.tr (ckE.of hp (lyE.t b3 b4))
    have K3 := K2.t b2 b3
    have T3 : tgC C3 p g ts := T2.kp b3 ⟨by omega, by omega⟩ ⟨by omega, by omega⟩
    have n67 := (hx C3 E3).2.2.2.2.2.2.1 htg h3
    have hnm := wB_nm wb htg h3
    have wt1 := wt.1
    have hl3 : (wTag (bSo b) ++ [32]).length ≤ 11 := by rw [List.length_append, List.length_singleton]; omega
    obtain ⟨C4, f1, f2, f3, f4⟩ := g100_s K3.1 (hE C3 E3).1 (by decide) ⟨by have := hc 1 (by decide); omega, by have := hc 1 (by decide); omega, by have := hc 2 (by decide); omega, by have := hc 2 (by decide); omega⟩ wb.2.2.2.2.1 wb.2.2.2.2.2.1 (by dsimp only; omega) (by decide)
    rw [(S.ck E3).1]
    simp only [bS]
    rw [n67.1, n67.2, f1]
    simp only [bS]
    have E4 : ckE p C C4 := E3.tr (ckE.of hp (lyE.t f3 f4))
    have K4 := K3.t f2 f3
    have T4 : tgC C4 p g ts := T3.kp f3 ⟨by omega, by omega⟩ ⟨by omega, by omega⟩
    refine e52 C4 _ E4 K4 T4 ?_ ?_
    · have := cut_le (bs := (gC es q.1).1) (a := bNf b) (z := bNt b)
      rw [List.length_append]
      dsimp only
      omega
    · rw [if_neg h3, List.append_assoc, List.singleton_append]
end PC29
