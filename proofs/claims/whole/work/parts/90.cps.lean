section PCPS
variable {C C' : xC} {d : Nat} {bs : List Nat} {r : Rd} {F : Option (Nat × Nat)} {to : Nat}
/-- the last piece is glued, its block has one more -/
theorem cRd_fin {p : Pc} (T : cRd C d (r.1, r.2 ++ [(p.1, p.2.1, p.2.2.1, p.2.2.2.1, p.2.2.2.2.1, p.2.2.2.2.2.1, false)])) (hL : 0 < r.1.length) (h25 : r.1.length ≤ 25) (h120 : r.2.length < 120) : cRd (uI (uI C (d + 30 + r.2.length) 6 (bZ p.2.2.2.2.2.2)) (d + 4 + (r.1.length - 1)) 5 (cI (uI C (d + 30 + r.2.length) 6 (bZ p.2.2.2.2.2.2)) (d + 4 + (r.1.length - 1)) 5 + 1)) d (upR r (r.2 ++ [p])) := by
  obtain ⟨⟨t1, t2⟩, t3, t4⟩ := T
  have l1 : (r.2 ++ [p]).length = r.2.length + 1 := by simp
  refine ⟨⟨?_, fun k hk => ?_⟩, ?_, fun k hk => ?_⟩
  · rw [upR_len hL, uI_n (by omega), uI_n (by omega)]
    exact t1
  · rw [upR_len hL] at hk
    have b := t2 k hk
    have b : cBk C d (d + 4 + k) (r.1.getD k bkD) := b
    rw [upR_get hk, l1]
    by_cases h : k = r.1.length - 1
    · rw [if_pos h, lastB_g hL, ← h]
      obtain ⟨b1, b2, b3, b4, b5, b6, b7, b8⟩ := b
      refine ⟨?_, ?_, ?_, ?_, ?_, ?_, fun x y => ⟨?_, ?_⟩, ?_⟩
      · simp (disch := omega) only [uI_r]; exact b1
      · simp (disch := omega) only [uI_n]; exact b2
      · simp (disch := omega) only [uI_n]; exact b3
      · simp (disch := omega) only [uI_n]; exact b4
      · simp (disch := omega) only [uI_n]; exact b5
      · simp (disch := omega) only [uI_e, uI_n, b6]
        rw [nI_1, show r.2.length + 1 - r.2.length = 1 by omega]
        rfl
      · simp (disch := omega) only [uI_n]; exact (b7 x y).1
      · simp (disch := omega) only [uI_n]; exact (b7 x y).2
      · simp (disch := omega) only [uI_n]; exact b8
    · rw [if_neg h]
      exact b.kp (P := fun a => a ≠ d + 30 + r.2.length ∧ a ≠ d + 4 + (r.1.length - 1)) ((eqO.uI (fun h9 => h9.1 rfl)).tr (eqO.uI (fun h9 => h9.2 rfl))) ⟨by omega, by omega⟩
  · show _ = nI (r.2 ++ [p]).length
    rw [l1, uI_n (by omega), uI_n (by omega)]
    rw [t3]
    simp
  · have hk : k < (r.2 ++ [p]).length := hk
    rw [l1] at hk
    show cPc _ (d + 30 + k) ((r.2 ++ [p]).getD k pcD)
    have b := t4 k (by show k < (r.2 ++ [_]).length; simp; omega)
    have b : cPc C (d + 30 + k) ((r.2 ++ [(p.1, p.2.1, p.2.2.1, p.2.2.2.1, p.2.2.2.2.1, p.2.2.2.2.2.1, false)]).getD k pcD) := b
    rw [gD_app hk] at b ⊢
    by_cases h : k = r.2.length
    · rw [if_pos h] at b ⊢
      obtain ⟨b1, b2, b3, b4, b5, b6⟩ := b
      subst h
      refine ⟨?_, ?_, ?_, ?_, fun x => ⟨?_, ?_⟩, ?_⟩
      · simp (disch := omega) only [uI_n]; exact b1
      · simp (disch := omega) only [uI_n]; exact b2
      · simp (disch := omega) only [uI_n]; exact b3
      · simp (disch := omega) only [uI_n]; exact b4
      · simp (disch := omega) only [uI_n]; exact (b5 x).1
      · simp (disch := omega) only [uI_n]; exact (b5 x).2
      · simp (disch := omega) only [uI_n, uI_e]; rfl
    · rw [if_neg h] at b ⊢
      exact b.kp (P := fun a => a ≠ d + 30 + r.2.length ∧ a ≠ d + 4 + (r.1.length - 1)) ((eqO.uI (fun h9 => h9.1 rfl)).tr (eqO.uI (fun h9 => h9.2 rfl))) ⟨by omega, by omega⟩
theorem cmb_1 {G : Option (Nat × Nat)} : cmb (cmb F none) G = cmb F G := rfl
/-- one piece: any of the three readers -/
theorem pc_any (R : rS C d bs) (T : cRd C d r) (hF : fS C F) (h25 : r.1.length ≤ 25) (h120 : r.2.length ≤ 120) {i : Nat} (hi : i < to) (ht : to ≤ bs.length) (hE : tx bs to = 10 ∨ 256 ≤ tx bs to) (k : Option Nat → xC → Option xC) : ∃ C' res, ((cR C 5 2).bind fun a_6 => (g104 a_6 (nI i) 1 C).bind fun r_5 => (if r_5.1 = 0 then (cR r_5.2 5 2).bind fun a_11 => (g104 a_11 (nI i) 2 r_5.2).bind fun r_10 => (if r_10.1 = 0 then (g75 5 (nI i) (nI to) r_10.2).bind fun r_14 => k r_14.1 r_14.2 else (g79 5 (nI i) (nI to) r_10.2).bind fun r_17 => k r_17.1 r_17.2) else (g78 5 (nI i) (nI to) r_5.2).bind fun r_20 => k r_20.1 r_20.2)) = k res C' ∧ pcR C C' d r F i (pcOne (tx bs) i to) res := by
  obtain ⟨⟨a1, a2⟩, b, t, hd⟩ := id R
  have t5 := t.2.2.2.2.1
  have w1 : g104 (d + 1) (nI i) 1 C = some (bZ (isW (tx bs) i wCode), C) := g104_s t (by decide) (by omega)
  have w2 : g104 (d + 1) (nI i) 2 C = some (bZ (isW (tx bs) i wLink), C) := g104_s t (by decide) (by omega)
  rw [a2]
  simp only [bS]
  rw [w1]
  simp only [bS, bZ_0]
  cases hc : isW (tx bs) i wCode with
  | true =>
    obtain ⟨D, res, d1, d2⟩ := g78_s R T hF h25 h120 hi ht hE hc
    rw [if_neg (show ¬ true = false by decide), d1]
    exact ⟨D, res, rfl, d2⟩
  | false =>
    rw [if_pos (Eq.refl false), a2]
    simp only [bS]
    rw [w2]
    simp only [bS, bZ_0]
    cases hk : isW (tx bs) i wLink with
    | true =>
      obtain ⟨D, res, d1, d2⟩ := g79_s R T hF h25 h120 hi ht hE hc hk
      rw [if_neg (show ¬ true = false by decide), d1]
      exact ⟨D, res, rfl, d2⟩
    | false =>
      obtain ⟨D, res, d1, d2⟩ := g75_s R T hF h25 h120 hi ht hc hk
      rw [if_pos (Eq.refl false), d1]
      exact ⟨D, res, rfl, d2⟩
theorem pcs_ge (f : Nat → Nat) : ∀ m i gl (ps : List Pc), ps.length ≤ (pcs f to m i gl ps).1.length := by
  intro m
  induction m with
  | zero => intro i gl ps; exact Nat.le_refl _
  | succ m ih =>
    intro i gl ps
    rw [pcs]
    by_cases h : to ≤ i
    · rw [if_pos h]
      exact Nat.le_refl _
    · rw [if_neg h]
      cases pcOne f i to with
      | none => exact Nat.le_refl _
      | some q =>
        obtain ⟨q1, q2, q3, q4, q5, q6⟩ := q
        dsimp only
        by_cases h2 : ps.length = 120
        · rw [if_pos h2]
          exact Nat.le_refl _
        · rw [if_neg h2]
          have := ih (skp f q6 to) (skp f q6 to == q6) (ps ++ [(q1, i, q2, q3, q4, q5, gl)])
          simp at this ⊢
          omega
/-- the pieces up to the line's end -/
theorem g74_l (ht : to ≤ bs.length) (hE : tx bs to = 10 ∨ 256 ≤ tx bs to) (x1 : Int32) : ∀ m n i gl st (C : xC) (r : Rd) (F : Option (Nat × Nat)), to - i < m → m + 1 < n → i ≤ to → st ≤ i → rS C d bs → cRd C d r → fS C F → 0 < r.1.length → r.1.length ≤ 25 → r.2.length ≤ 120 → cR C 5 3 = some (d + 4 + (r.1.length - 1)) → ∃ C', gl74_16 n 5 x1 (nI to) (nI i) (bZ gl) (nI st) C = some C' ∧ fS C' (cmb F (pcs (tx bs) to m i gl r.2).2) ∧ ((pcs (tx bs) to m i gl r.2).2 = none → cRd C' d (upR r (pcs (tx bs) to m i gl r.2).1)) ∧ rdE d C C' ∧ ∀ k, cR C' 5 k = cR C 5 k := by
  intro m
  induction m with
  | zero => intro n i gl st C r F h; omega
  | succ m ih =>
    intro n i gl st C r F hm hn hi hst R T hF hL h25 h120 h3
    obtain ⟨⟨a1, a2⟩, b, t, hd⟩ := id R
    have t5 := t.2.2.2.2.1
    obtain ⟨n, rfl⟩ : ∃ k, n = k + 1 := ⟨n - 1, by omega⟩
    rw [gl74_16, pcs]
    dsimp only
    by_cases h1 : to ≤ i
    · rw [if_pos (nI_le h1 (by omega)), if_pos h1]
      unfold gj74_173
      refine ⟨C, by by_cases h9 : (600 : Int32) ≤ nI st <;> simp only [h9, if_true, if_false], hF, fun _ => by rw [upR_0 hL]; exact T, rdE.rfl', fun _ => rfl⟩
    · rw [if_neg (show ¬ (600 : Int32) ≤ nI st from nI_ge (a := st) (b := 600) (by omega) (by decide)), if_neg (nI_ge (by omega) (by omega)), if_neg h1]
      obtain ⟨D, res, d1, d2, d3, d4⟩ := pc_any R T hF h25 h120 (show i < to by omega) ht hE (fun o X => gj74_85 (gl74_16 n) 5 x1 (nI to) (nI i) (bZ gl) (nI st) o X)
      rw [d1]
      unfold gj74_85
      cases hq : pcOne (tx bs) i to with
      | none =>
        rw [hq] at d2
        obtain ⟨e1, e2, e3⟩ := d2
        rw [if_pos e1]
        exact ⟨D, rfl, e2, fun h9 => (by cases h9), d3, d4⟩
      | some q =>
        rw [hq] at d2
        have hp := pc_le (show i < to by omega) hE hq
        obtain ⟨so, sf, sx, nf, nt, bh⟩ := q
        dsimp only at d2 hp ⊢
        by_cases hl : r.2.length = 120
        · rw [if_pos hl] at d2 ⊢
          obtain ⟨e1, e2, e3⟩ := d2
          rw [if_pos e1]
          exact ⟨D, rfl, e2, fun h9 => (by cases h9), d3, d4⟩
        · rw [if_neg hl] at d2 ⊢
          obtain ⟨e1, e2, e3⟩ := d2
          have d33 : cR D 5 3 = some (d + 4 + (r.1.length - 1)) := by rw [d4]; exact h3
          rw [e1, if_neg (by simp), d33, if_neg (by simp), if_pos bZ_p]
          simp only [bS]
          rw [uI_r, d33]
          simp only [bS]
          have hlt : r.2.length < 120 := by omega
          have V := cRd_fin (p := (so, i, sf, sx, nf, nt, gl)) e3 hL h25 hlt
          have p0 := V.2.2 r.2.length (by show _ < (r.2 ++ [_]).length; simp)
          have p0 : cPc _ (d + 30 + r.2.length) ((r.2 ++ [(so, i, sf, sx, nf, nt, gl)]).getD r.2.length pcD) := p0
          rw [gD_app (by omega), if_pos rfl] at p0
          have E2 : rdE d C (uI (uI D (d + 30 + r.2.length) 6 (bZ gl)) (d + 4 + (r.1.length - 1)) 5 (cI (uI D (d + 30 + r.2.length) 6 (bZ gl)) (d + 4 + (r.1.length - 1)) 5 + 1)) := d3.tr ((rdE_pc hd hlt).tr (rdE_bk hd (by omega)))
          have V : cRd (uI (uI D (d + 30 + r.2.length) 6 (bZ gl)) (d + 4 + (r.1.length - 1)) 5 (cI (uI D (d + 30 + r.2.length) 6 (bZ gl)) (d + 4 + (r.1.length - 1)) 5 + 1)) d (upR r (r.2 ++ [(so, i, sf, sx, nf, nt, gl)])) := V
          have F2 : fS (uI (uI D (d + 30 + r.2.length) 6 (bZ gl)) (d + 4 + (r.1.length - 1)) 5 (cI (uI D (d + 30 + r.2.length) 6 (bZ gl)) (d + 4 + (r.1.length - 1)) 5 + 1)) F := e2.kp (by rw [uI_n (by omega), uI_n (by omega)]) (by rw [uI_n (by omega), uI_n (by omega)])
          have k5 : ∀ k, cR (uI (uI D (d + 30 + r.2.length) 6 (bZ gl)) (d + 4 + (r.1.length - 1)) 5 (cI (uI D (d + 30 + r.2.length) 6 (bZ gl)) (d + 4 + (r.1.length - 1)) 5 + 1)) 5 k = cR C 5 k := fun k => d4 k
          have z1 := p0.1
          have z4 := p0.2.2.2.1
          have z1 : cI (uI (uI D (d + 30 + r.2.length) 6 (bZ gl)) (d + 4 + (r.1.length - 1)) 5 (cI (uI D (d + 30 + r.2.length) 6 (bZ gl)) (d + 4 + (r.1.length - 1)) 5 + 1)) (d + 30 + r.2.length) 0 = nI so := z1
          have z4 : cI (uI (uI D (d + 30 + r.2.length) 6 (bZ gl)) (d + 4 + (r.1.length - 1)) 5 (cI (uI D (d + 30 + r.2.length) 6 (bZ gl)) (d + 4 + (r.1.length - 1)) 5 + 1)) (d + 30 + r.2.length) 3 = nI sx := z4
          generalize uI (uI D (d + 30 + r.2.length) 6 (bZ gl)) (d + 4 + (r.1.length - 1)) 5 (cI (uI D (d + 30 + r.2.length) 6 (bZ gl)) (d + 4 + (r.1.length - 1)) 5 + 1) = V1 at V E2 F2 k5 z1 z4 ⊢
          have R2 := R.kp E2
          have k1 := skp_ge (f := tx bs) (show bh ≤ to by omega)
          have e41 : gj74_141 (gl74_16 n) 5 x1 (nI to) (nI i) (bZ gl) (nI st) (some (d + 30 + r.2.length)) (nI bh) V1 = gl74_16 n 5 x1 (nI to) (nI (skp (tx bs) bh to)) (bZ (skp (tx bs) bh to == bh)) (nI (st + 1)) V1 := by
            unfold gj74_141 gj74_165
            rw [R2.1.2]
            simp only [bS]
            rw [R2.2.2.1.k (by omega) (by omega)]
            simp only [bS]
            rw [nI_1]
            by_cases h9 : skp (tx bs) bh to = bh
            · rw [if_pos (by rw [h9]), show (skp (tx bs) bh to == bh) = true by simpa using h9]
              rfl
            · rw [if_neg (nI_ne h9 (by omega) (by omega)), show (skp (tx bs) bh to == bh) = false by simpa using h9]
              rfl
          have esw : (if cI V1 (d + 30 + r.2.length) 0 = 0 then gj74_141 (gl74_16 n) 5 x1 (nI to) (nI i) (bZ gl) (nI st) (some (d + 30 + r.2.length)) (cI V1 (d + 30 + r.2.length) 3) V1 else gj74_141 (gl74_16 n) 5 x1 (nI to) (nI i) (bZ gl) (nI st) (some (d + 30 + r.2.length)) (cI V1 (d + 30 + r.2.length) 3 + 1) V1) = gj74_141 (gl74_16 n) 5 x1 (nI to) (nI i) (bZ gl) (nI st) (some (d + 30 + r.2.length)) (nI bh) V1 := by
            rw [z1, z4]
            have hb := hp.2.2.2.2.2.2.2.2.2.1
            by_cases h9 : so = 0
            · rw [if_pos (show nI so = 0 by rw [h9]; rfl)]
              rw [if_pos h9] at hb
              rw [hb]
            · rw [if_neg (nI_ne0 (by omega) (by omega)), nI_1]
              rw [if_neg h9] at hb
              rw [hb]
          rw [esw, e41]
          have pl : (r.2 ++ [(so, i, sf, sx, nf, nt, gl)]).length = r.2.length + 1 := by simp
          obtain ⟨W, w1, w2, w3, w4, w5⟩ := ih n (skp (tx bs) bh to) (skp (tx bs) bh to == bh) (st + 1) V1 (upR r (r.2 ++ [(so, i, sf, sx, nf, nt, gl)])) F (by omega) (by omega) (by omega) (by omega) R2 V F2 (by rw [upR_len hL]; exact hL) (by rw [upR_len hL]; exact h25) (by show (r.2 ++ [_]).length ≤ 120; rw [pl]; omega) (by rw [upR_len hL, k5]; exact h3)
          refine ⟨W, w1, w2, fun h9 => ?_, E2.tr w4, fun k => (w5 k).trans (k5 k)⟩
          have := w3 h9
          rw [show (upR r (r.2 ++ [(so, i, sf, sx, nf, nt, gl)])).2 = r.2 ++ [(so, i, sf, sx, nf, nt, gl)] from rfl] at this
          rw [upR_up hL (by rw [pl]; omega) (pcs_ge (tx bs) m _ _ _)] at this
          exact this
/-- what reading the pieces of a line answers -/
def lnQ (C C' : xC) (d : Nat) (F : Option (Nat × Nat)) (o : Rd × Option (Nat × Nat)) : Prop := fS C' (cmb F o.2) ∧ (o.2 = none → cRd C' d o.1) ∧ rdE d C C' ∧ ∀ k, cR C' 5 k = cR C 5 k
theorem g74_s (ht : to ≤ bs.length) (hE : tx bs to = 10 ∨ 256 ≤ tx bs to) {i : Nat} (hi : i ≤ to) (R : rS C d bs) (T : cRd C d r) (hF : fS C F) (hL : 0 < r.1.length) (h25 : r.1.length ≤ 25) (h120 : r.2.length ≤ 120) (h3 : cR C 5 3 = some (d + 4 + (r.1.length - 1))) : ∃ C', g74 5 (nI i) (nI to) C = some C' ∧ lnQ C C' d F (rdPcs (tx bs) to i r) := by
  have t5 := R.2.2.1.2.2.2.2.1
  have k1 := skp_ge (f := tx bs) hi
  unfold g74
  rw [R.1.2]
  simp only [bS]
  rw [R.2.2.1.k hi (by omega)]
  simp only [bS]
  obtain ⟨W, w1, w2, w3, w4, w5⟩ := g74_l ht hE (nI i) 700 xFuel (skp (tx bs) i to) false 0 C r F (by omega) (by decide) (by omega) (by omega) R T hF hL h25 h120 h3
  exact ⟨W, w1, w2, w3, w4, w5⟩
end PCPS
