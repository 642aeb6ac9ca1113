section PCPC
variable {C C' : xC} {d : Nat} {bs : List Nat} {r : Rd} {F : Option (Nat × Nat)} {to : Nat}
theorem cRd_lp {p0 p1 : Pc} (T : cRd C d (r.1, r.2 ++ [p0])) (h25 : r.1.length ≤ 25) (h120 : r.2.length < 120) (E : eqO (fun a => a ≠ d + 30 + r.2.length) C C') (h : cPc C' (d + 30 + r.2.length) p1) : cRd C' d (r.1, r.2 ++ [p1]) := by
  obtain ⟨⟨t1, t2⟩, t3, t4⟩ := T
  have e0 := E d (by omega)
  refine ⟨⟨by rw [e0.1]; exact t1, fun k hk => (t2 k hk).kp E (by have hk : k < r.1.length := hk; omega)⟩, ?_, fun k hk => ?_⟩
  · rw [e0.1, t3]
    simp
  · have hk : k < (r.2 ++ [p1]).length := hk
    simp only [List.length_append, List.length_singleton] at hk
    show cPc C' (d + 30 + k) ((r.2 ++ [p1]).getD k pcD)
    rw [gD_app hk]
    by_cases hkl : k = r.2.length
    · rw [if_pos hkl, hkl]
      exact h
    · rw [if_neg hkl]
      have := t4 k (by show k < (r.2 ++ [p0]).length; simp; omega)
      have e1 : (r.2 ++ [p0]).getD k pcD = r.2.getD k pcD := by rw [gD_app hk, if_neg hkl]
      have this : cPc C (d + 30 + k) ((r.2 ++ [p0]).getD k pcD) := this
      rw [e1] at this
      exact this.kp E (by omega)
/-- what a reader of a piece answers -/
def pcR (C C' : xC) (d : Nat) (r : Rd) (F : Option (Nat × Nat)) (i : Nat) (o : Option (Nat × Nat × Nat × Nat × Nat × Nat)) (res : Option Nat) : Prop := (match o with
  | none => res = none ∧ fS C' (cmb F (some (2, i))) ∧ cRd C' d r
  | some q => if r.2.length = 120 then res = none ∧ fS C' (cmb F (some (4, i))) ∧ cRd C' d r else res = some (d + 30 + r.2.length) ∧ fS C' F ∧ cRd C' d (r.1, r.2 ++ [(q.1, i, q.2.1, q.2.2.1, q.2.2.2.1, q.2.2.2.2.1, false)])) ∧ rdE d C C' ∧ ∀ k, cR C' 5 k = cR C 5 k
/-- a piece is added, or refused -/
theorem g77_f (R : rS C d bs) (T : cRd C d r) (hF : fS C F) (h25 : r.1.length ≤ 25) (h120 : r.2.length ≤ 120) {i : Nat} (hi : i < 1000) (x : Int32) : ∃ C', g77 5 (nI i) x 0 C = some (none, C') ∧ fS C' (cmb F (some (2, i))) ∧ cRd C' d r ∧ rdE d C C' ∧ ∀ k, cR C' 5 k = cR C 5 k := by
  unfold g77
  rw [if_pos (Eq.refl (0 : Int32))]
  obtain ⟨D, d1, d2, d3, d4, d5⟩ := g62_s hF (c := 2) (p := i) (by decide) hi
  rw [show (2 : Int32) = nI 2 from rfl, d1]
  exact ⟨D, rfl, d2, cRd_eq T h25 h120 R.2.2.2 (d3.mono fun a ha => ha.1), d5 d, d4⟩
theorem g77_t (R : rS C d bs) (T : cRd C d r) (hF : fS C F) (h25 : r.1.length ≤ 25) (h120 : r.2.length ≤ 120) {i z : Nat} (hi : i < 1000) : ∃ C' res, g77 5 (nI i) (nI z) 1 C = some (res, C') ∧ (if r.2.length = 120 then res = none ∧ fS C' (cmb F (some (4, i))) ∧ cRd C' d r else res = some (d + 30 + r.2.length) ∧ fS C' F ∧ cRd C' d (r.1, r.2 ++ [(0, i, i, z, 0, 0, false)])) ∧ rdE d C C' ∧ ∀ k, cR C' 5 k = cR C 5 k := by
  obtain ⟨⟨a1, a2⟩, b, t, hd⟩ := R
  unfold g77 gj77_34
  rw [if_neg (show ¬ (1 : Int32) = 0 by decide), a1]
  simp only [bS]
  by_cases hl : r.2.length = 120
  · have e8 : g8 d (nI i) (nI z) C = some (none, C) := by
      obtain ⟨s1, s2, s3, s4, s7, s8, s9⟩ := b
      unfold g8
      rw [s7]
      simp only [bS]
      rw [s8, T.2.1, if_neg]
      rw [hl]
      decide
    rw [e8]
    simp only [bS]
    rw [if_pos trivial]
    obtain ⟨D, d1, d2, d3, d4, d5⟩ := g62_s hF (c := 4) (p := i) (by decide) hi
    rw [show (4 : Int32) = nI 4 from rfl, d1]
    refine ⟨D, none, rfl, ?_, d5 d, d4⟩
    rw [if_pos hl]
    exact ⟨rfl, d2, cRd_eq T h25 h120 hd (d3.mono fun a ha => ha.1)⟩
  · obtain ⟨D, d1, d2, d3, d4, d5⟩ := g8_s b T hd h25 (show r.2.length < 120 by omega) i z
    rw [d1]
    simp only [bS]
    rw [if_neg (by simp)]
    refine ⟨D, _, rfl, ?_, d3, d4⟩
    rw [if_neg hl]
    exact ⟨rfl, hF.kp (d5 5) (d5 6), d2⟩
theorem rdE_pc {k : Nat} {v : Int32} (hd : 17 < d) {j : Nat} (hj : j < 120) : rdE d C (uI C (d + 30 + j) k v) := by
  refine ⟨eqO.uI (fun h9 => by omega), fun _ => rfl, fun _ _ => rfl, ?_, rfl, rfl⟩
  rw [uI_n (by omega)]
theorem rdE_bk {k : Nat} {v : Int32} (hd : 17 < d) {j : Nat} (hj : j < 25) : rdE d C (uI C (d + 4 + j) k v) := by
  refine ⟨eqO.uI (fun h9 => by omega), fun _ => rfl, fun _ _ => rfl, ?_, rfl, rfl⟩
  rw [uI_n (by omega)]
/-- word -/
theorem g75_s (R : rS C d bs) (T : cRd C d r) (hF : fS C F) (h25 : r.1.length ≤ 25) (h120 : r.2.length ≤ 120) {i : Nat} (hi : i < to) (ht : to ≤ bs.length) (hc : isW (tx bs) i wCode = false) (hk : isW (tx bs) i wLink = false) : ∃ C' res, g75 5 (nI i) (nI to) C = some (res, C') ∧ pcR C C' d r F i (pcOne (tx bs) i to) res := by
  obtain ⟨⟨a1, a2⟩, b, t, hd⟩ := id R
  have t5 := t.2.2.2.2.1
  have e76 : ∀ c, g76 (bI c) C = some (bZ (c == 32 || c == 123 || c == 125), C) := fun c => by
    unfold g76 gj76_18 gj76_23
    simp (disch := omega) only [lt_32, lt_123, lt_125, bI_eq]
    by_cases h1 : c = 32
    · rw [if_pos h1, h1]; rfl
    · rw [if_neg h1]
      by_cases h2 : c = 123
      · rw [if_pos h2, h2]; rfl
      · rw [if_neg h2]
        by_cases h3 : c = 125
        · rw [if_pos h3, h3]; rfl
        · rw [if_neg h3, show (c == 32 || c == 123 || c == 125) = false by simp [h1, h2, h3]]; rfl
  have key : gl75_2 xFuel 5 (nI i) (nI to) (nI i) C = gj75_27 5 (nI i) (nI to) (nI (sc (fun j => tx bs j == 32 || tx bs j == 123 || tx bs j == 125) i (to - i))) C := by
    refine l_sc (fun n j => gl75_2 n 5 (nI i) (nI to) (nI j) C) (fun j => tx bs j == 32 || tx bs j == 123 || tx bs j == 125) (fun j => gj75_27 5 (nI i) (nI to) (nI j) C) to (fun n => ?_) (fun n j hj hp => ?_) (fun n j hj hp => ?_) (to - i) xFuel i (by omega) (pFuel _ (by omega))
    · simp only [gl75_2]
      rw [if_pos (nI_le (Nat.le_refl _) (by omega))]
    · simp only [gl75_2]
      rw [if_neg (nI_ge hj (by omega)), a2]
      simp only [bS]
      rw [t.s (by omega)]
      simp only [bS]
      rw [e76, hp]
      simp only [bS]
      rw [if_neg bZt]
    · simp only [gl75_2]
      rw [if_neg (nI_ge hj (by omega)), a2]
      simp only [bS]
      rw [t.s (by omega)]
      simp only [bS]
      rw [e76, hp]
      simp only [bS]
      rw [if_pos bZf, nI_1]
  unfold g75
  rw [key, pc_word hc hk]
  have w1 := sc_ge (fun j => tx bs j == 32 || tx bs j == 123 || tx bs j == 125) (to - i) i
  generalize sc (fun j => tx bs j == 32 || tx bs j == 123 || tx bs j == 125) i (to - i) = w at w1 ⊢
  unfold gj75_27 gj75_40
  by_cases h : i < w
  · rw [if_neg (nI_ge h (by omega)), if_pos h]
    obtain ⟨D, res, d1, d2, d3, d4⟩ := g77_t R T hF h25 h120 (i := i) (z := w) (by omega)
    rw [d1]
    exact ⟨D, res, rfl, d2, d3, d4⟩
  · rw [if_pos (nI_le (by omega) (by omega)), if_neg h]
    obtain ⟨D, d1, d2, d3, d4, d5⟩ := g77_f R T hF h25 h120 (i := i) (by omega) (nI w)
    rw [d1]
    exact ⟨D, none, rfl, ⟨rfl, d2, d3⟩, d4, d5⟩
/-- code -/
theorem g78_s (R : rS C d bs) (T : cRd C d r) (hF : fS C F) (h25 : r.1.length ≤ 25) (h120 : r.2.length ≤ 120) {i : Nat} (hi : i < to) (ht : to ≤ bs.length) (hE : tx bs to = 10 ∨ 256 ≤ tx bs to) (hc : isW (tx bs) i wCode = true) : ∃ C' res, g78 5 (nI i) (nI to) C = some (res, C') ∧ pcR C C' d r F i (pcOne (tx bs) i to) res := by
  obtain ⟨⟨a1, a2⟩, b, t, hd⟩ := id R
  have t5 := t.2.2.2.2.1
  have i6 := isW_in hE wCode i (by decide) (by omega) hc
  rw [show wCode.length = 6 from rfl] at i6
  have key : ∀ k n j o, j + k = to → k < n → o ≤ 601 + j → gl78_14 n 5 (nI i) (nI to) (nI (i + 6)) (nI o) (nI j) C = gj78_68 5 (nI i) (nI to) (nI (i + 6)) (nI (cEnd (tx bs) j k o).2) (nI (cEnd (tx bs) j k o).1) C := by
    intro k
    induction k with
    | zero =>
      intro n j o hj hn ho
      obtain ⟨n, rfl⟩ : ∃ m, n = m + 1 := ⟨n - 1, by omega⟩
      rw [gl78_14]
      dsimp only
      rw [if_pos (nI_le (by omega) (by omega))]
      rfl
    | succ k ih =>
      intro n j o hj hn ho
      obtain ⟨n, rfl⟩ : ∃ m, n = m + 1 := ⟨n - 1, by omega⟩
      rw [gl78_14, cEnd]
      dsimp only
      rw [if_neg (nI_ge (by omega) (by omega)), a2]
      simp only [bS]
      rw [t.s (by omega)]
      simp (disch := omega) only [bS, nI_z1, lt_123, bI_eq, gj78_62]
      by_cases h0 : o = 0
      · rw [if_pos h0, if_pos h0]
      · rw [if_neg h0, if_neg h0]
        by_cases h1 : tx bs j = 123
        · rw [if_pos h1, if_pos h1, nI_1, nI_1]
          exact ih n (j + 1) (o + 1) (by omega) (by omega) (by omega)
        · rw [if_neg h1, if_neg h1, a2]
          simp only [bS]
          rw [t.s (by omega)]
          simp (disch := omega) only [bS, lt_125, bI_eq]
          by_cases h2 : tx bs j = 125
          · rw [if_pos h2, if_pos h2, nI_dec (by omega), nI_1]
            exact ih n (j + 1) (o - 1) (by omega) (by omega) (by omega)
          · rw [if_neg h2, if_neg h2, nI_1]
            exact ih n (j + 1) o (by omega) (by omega) (by omega)
  unfold g78
  rw [(wQ_ok 1 (by decide)).2.1]
  simp only [bS]
  rw [show nI (wQ 1).length = nI 6 from rfl, nI_add, show (1 : Int32) = nI 1 from rfl, key (to - (i + 6)) xFuel (i + 6) 1 (by omega) (pFuel _ (by omega)) (by omega), pc_code hc]
  have b1 := cEnd_ge (tx bs) (to - (i + 6)) (i + 6) 1
  generalize cEnd (tx bs) (i + 6) (to - (i + 6)) 1 = q at b1 ⊢
  unfold gj78_68
  have no : ∀ x5 : Int32, ¬ (q.2 = 0 ∧ 1 ≤ q.1 - 1 - (i + 6) ∧ q.1 - 1 - (i + 6) ≤ 60) → ∃ C' res, gj78_98 5 (nI i) (nI to) (nI (i + 6)) (nI q.2) (nI q.1) 5 (nI i) x5 C = some (res, C') ∧ pcR C C' d r F i (if q.2 = 0 ∧ 1 ≤ q.1 - 1 - (i + 6) ∧ q.1 - 1 - (i + 6) ≤ 60 then some (1, i + 6, q.1 - 1, 0, 0, q.1) else none) res := fun x5 hn => by
    rw [if_neg hn]
    unfold gj78_98 gj78_99
    obtain ⟨D, d1, d2, d3, d4, d5⟩ := g77_f R T hF h25 h120 (i := i) (by omega) x5
    rw [d1]
    simp only [bS]
    rw [if_pos trivial]
    exact ⟨D, none, rfl, ⟨rfl, d2, d3⟩, d4, d5⟩
  by_cases h0 : q.2 = 0
  · have h1 := b1.2.2.2 h0 (by decide)
    rw [if_pos (show nI q.2 = 0 by rw [h0]; rfl), nI_s1 (by omega), pk_sub (by omega), g135_s]
    simp only [bS, bZ_0]
    have e4 : decide ((1 : Int32) ≤ nI (q.1 - 1 - (i + 6)) ∧ nI (q.1 - 1 - (i + 6)) ≤ 60) = decide (1 ≤ q.1 - 1 - (i + 6) ∧ q.1 - 1 - (i + 6) ≤ 60) := by
      rw [show (1 : Int32) = nI 1 from rfl, lt_60]
      simp (disch := omega) only [nI_leI]
    rw [e4]
    by_cases h2 : 1 ≤ q.1 - 1 - (i + 6) ∧ q.1 - 1 - (i + 6) ≤ 60
    · rw [decide_eq_true h2, if_neg (show ¬ true = false by decide), if_pos ⟨h0, h2⟩]
      unfold gj78_99
      obtain ⟨D, res, d1, d2, d3, d4⟩ := g77_t R T hF h25 h120 (i := i) (z := q.1 - 1) (by omega)
      rw [d1]
      simp only [bS]
      by_cases hl : r.2.length = 120
      · rw [if_pos hl] at d2
        rw [if_pos d2.1]
        refine ⟨D, res, by rw [d2.1]; rfl, ?_, d3, d4⟩
        show if r.2.length = 120 then _ else _
        rw [if_pos hl]
        exact d2
      · rw [if_neg hl] at d2
        obtain ⟨y1, y2, y3⟩ := d2
        rw [y1, if_neg (by simp)]
        simp only [bS]
        unfold gj78_121
        have hlt : r.2.length < 120 := by omega
        have E1 : eqO (fun a => a ≠ d + 30 + r.2.length) D (uI (uI D (d + 30 + r.2.length) 0 1) (d + 30 + r.2.length) 2 (nI (i + 6))) := (eqO.uI (fun h9 => h9 rfl)).tr (eqO.uI (fun h9 => h9 rfl))
        have p0 := y3.2.2 r.2.length (by show _ < (r.2 ++ [_]).length; simp)
        have p0 : cPc D (d + 30 + r.2.length) ((r.2 ++ [(0, i, i, q.1 - 1, 0, 0, false)]).getD r.2.length pcD) := p0
        rw [gD_app (by omega), if_pos rfl] at p0
        obtain ⟨z1, z2, z3, z4, z5, z6⟩ := p0
        refine ⟨_, _, rfl, ?_, d3.tr ((rdE_pc hd hlt).tr (rdE_pc hd hlt)), fun k => d4 k⟩
        show if r.2.length = 120 then _ else _
        rw [if_neg hl]
        refine ⟨rfl, y2.kp (by rw [uI_n (by omega), uI_n (by omega)]) (by rw [uI_n (by omega), uI_n (by omega)]), cRd_lp y3 h25 hlt E1 ⟨?_, ?_, ?_, ?_, fun h9 => absurd h9 (by show ¬ (1 : Nat) = 2; decide), ?_⟩⟩
        · simp (disch := omega) only [uI_n, uI_e]; rfl
        · simp (disch := omega) only [uI_n]; exact z2
        · simp (disch := omega) only [uI_e]; rfl
        · simp (disch := omega) only [uI_n]; exact z4
        · simp (disch := omega) only [uI_n]; exact z6
    · rw [decide_eq_false h2, if_pos (Eq.refl false)]
      exact no _ fun h9 => h2 h9.2
  · rw [if_neg (show ¬ nI q.2 = 0 from nI_ne0 (by omega) (by omega))]
    exact no _ fun h9 => h0 h9.1
/-- link -/
theorem g79_s (R : rS C d bs) (T : cRd C d r) (hF : fS C F) (h25 : r.1.length ≤ 25) (h120 : r.2.length ≤ 120) {i : Nat} (hi : i < to) (ht : to ≤ bs.length) (hE : tx bs to = 10 ∨ 256 ≤ tx bs to) (hc : isW (tx bs) i wCode = false) (hk : isW (tx bs) i wLink = true) : ∃ C' res, g79 5 (nI i) (nI to) C = some (res, C') ∧ pcR C C' d r F i (pcOne (tx bs) i to) res := by
  obtain ⟨⟨a1, a2⟩, b, t, hd⟩ := id R
  have t5 := t.2.2.2.2.1
  have i6 := isW_in hE wLink i (by decide) (by omega) hk
  rw [show wLink.length = 6 from rfl] at i6
  rw [pc_link hc hk]
  unfold lkS
  dsimp only
  unfold g79
  rw [(wQ_ok 2 (by decide)).2.1, a2]
  simp only [bS]
  rw [show nI (wQ 2).length = nI 6 from rfl, nI_add, show (125 : Int32) = nI 125 from rfl, t.p (by decide) i6 (by omega)]
  simp only [bS]
  have c1 := sc_ge (fun j => tx bs j == 125) (to - (i + 6)) (i + 6)
  generalize sc (fun j => tx bs j == 125) (i + 6) (to - (i + 6)) = cl at c1 ⊢
  rw [a2]
  simp only [bS]
  rw [show (32 : Int32) = nI 32 from rfl, t.p (by decide) c1.1 (by omega)]
  simp only [bS]
  have n1 := sc_ge (fun j => tx bs j == 32) (cl - (i + 6)) (i + 6)
  generalize sc (fun j => tx bs j == 32) (i + 6) (cl - (i + 6)) = nt at n1 ⊢
  rw [a2]
  simp only [bS]
  rw [t.k (show nt ≤ cl by omega) (by omega)]
  simp only [bS]
  have l1 := sc_ge (fun j => !(tx bs j == 32)) (cl - nt) nt
  rw [show skp (tx bs) nt cl = sc (fun j => !(tx bs j == 32)) nt (cl - nt) from rfl]
  generalize sc (fun j => !(tx bs j == 32)) nt (cl - nt) = lb at l1 ⊢
  have no : ∀ P : Prop, [Decidable P] → ¬ P → ∃ C' res, gj79_89 5 (nI i) (nI to) (nI (i + 6)) (nI cl) (nI nt) (nI lb) C = some (res, C') ∧ pcR C C' d r F i (Option.map (fun q => (2, q.1, q.2.1, i + 6, q.2.2, q.2.1 + 1)) (if P then some (if nt = cl then i + 6 else lb, cl, nt) else none)) res := fun P _ hn => by
    rw [if_neg hn]
    unfold gj79_89 gj79_90
    obtain ⟨D, d1, d2, d3, d4, d5⟩ := g77_f R T hF h25 h120 (i := i) (by omega) (nI cl)
    rw [d1]
    simp only [bS]
    rw [if_pos trivial]
    exact ⟨D, none, rfl, ⟨rfl, d2, d3⟩, d4, d5⟩
  have yes : ∀ P : Prop, [Decidable P] → P → ∃ C' res, gj79_85 5 (nI i) (nI to) (nI (i + 6)) (nI cl) (nI nt) (nI lb) C = some (res, C') ∧ pcR C C' d r F i (Option.map (fun q => (2, q.1, q.2.1, i + 6, q.2.2, q.2.1 + 1)) (if P then some (if nt = cl then i + 6 else lb, cl, nt) else none)) res := fun P _ hn => by
    rw [if_pos hn]
    unfold gj79_85 gj79_90
    obtain ⟨D, res, d1, d2, d3, d4⟩ := g77_t R T hF h25 h120 (i := i) (z := cl) (by omega)
    rw [d1]
    simp only [bS]
    by_cases hl : r.2.length = 120
    · rw [if_pos hl] at d2
      rw [if_pos d2.1]
      refine ⟨D, res, by rw [d2.1]; rfl, ?_, d3, d4⟩
      show if r.2.length = 120 then _ else _
      rw [if_pos hl]
      exact d2
    · rw [if_neg hl] at d2
      obtain ⟨y1, y2, y3⟩ := d2
      rw [y1, if_neg (by simp)]
      simp only [bS]
      unfold gj79_142 gj79_145
      have hlt : r.2.length < 120 := by omega
      have esw : (if nI nt = nI cl then ((some (d + 30 + r.2.length)).bind fun a_3 => (some (uI (uI (uI (uI D (d + 30 + r.2.length) 0 2) (d + 30 + r.2.length) 4 (nI (i + 6))) (d + 30 + r.2.length) 5 (nI nt)) a_3 2 (nI (i + 6)))).bind fun C_1 => some (some (d + 30 + r.2.length), C_1)) else ((some (d + 30 + r.2.length)).bind fun a_3 => (some (uI (uI (uI (uI D (d + 30 + r.2.length) 0 2) (d + 30 + r.2.length) 4 (nI (i + 6))) (d + 30 + r.2.length) 5 (nI nt)) a_3 2 (nI lb))).bind fun C_1 => some (some (d + 30 + r.2.length), C_1))) = some (some (d + 30 + r.2.length), uI (uI (uI (uI D (d + 30 + r.2.length) 0 2) (d + 30 + r.2.length) 4 (nI (i + 6))) (d + 30 + r.2.length) 5 (nI nt)) (d + 30 + r.2.length) 2 (nI (if nt = cl then i + 6 else lb))) := by
        by_cases h9 : nt = cl
        · rw [if_pos (by rw [h9]), if_pos h9]; rfl
        · rw [if_neg (nI_ne h9 (by omega) (by omega)), if_neg h9]; rfl
      rw [esw]
      have E1 : eqO (fun a => a ≠ d + 30 + r.2.length) D (uI (uI (uI (uI D (d + 30 + r.2.length) 0 2) (d + 30 + r.2.length) 4 (nI (i + 6))) (d + 30 + r.2.length) 5 (nI nt)) (d + 30 + r.2.length) 2 (nI (if nt = cl then i + 6 else lb))) := (((eqO.uI (fun h9 => h9 rfl)).tr (eqO.uI (fun h9 => h9 rfl))).tr (eqO.uI (fun h9 => h9 rfl))).tr (eqO.uI (fun h9 => h9 rfl))
      have p0 := y3.2.2 r.2.length (by show _ < (r.2 ++ [_]).length; simp)
      have p0 : cPc D (d + 30 + r.2.length) ((r.2 ++ [(0, i, i, cl, 0, 0, false)]).getD r.2.length pcD) := p0
      rw [gD_app (by omega), if_pos rfl] at p0
      obtain ⟨z1, z2, z3, z4, z5, z6⟩ := p0
      refine ⟨_, _, rfl, ?_, d3.tr ((((rdE_pc hd hlt).tr (rdE_pc hd hlt)).tr (rdE_pc hd hlt)).tr (rdE_pc hd hlt)), fun k => d4 k⟩
      show if r.2.length = 120 then _ else _
      rw [if_neg hl]
      refine ⟨rfl, y2.kp (by simp (disch := omega) only [uI_n]) (by simp (disch := omega) only [uI_n]), cRd_lp y3 h25 hlt E1 ⟨?_, ?_, ?_, ?_, fun _ => ⟨?_, ?_⟩, ?_⟩⟩
      · simp (disch := omega) only [uI_n, uI_e]; rfl
      · simp (disch := omega) only [uI_n]; exact z2
      · simp (disch := omega) only [uI_e]; rfl
      · simp (disch := omega) only [uI_n]; exact z4
      · simp (disch := omega) only [uI_n, uI_e]; rfl
      · simp (disch := omega) only [uI_n, uI_e]; rfl
      · simp (disch := omega) only [uI_n]; exact z6
  by_cases h1 : cl < to
  · rw [if_neg (nI_ge h1 (by omega)), a2]
    simp only [bS]
    rw [g109_s t n1.1 (by omega)]
    simp only [bS, bZ_0]
    cases h2 : rfOK (tx bs) (i + 6) (nt - (i + 6)) with
    | false =>
      rw [if_pos (Eq.refl false)]
      exact no _ fun h9 => by have := h9.2.1; cases this
    | true =>
      rw [if_neg (show ¬ true = false by decide)]
      by_cases h3 : nt = cl
      · rw [if_pos (by rw [h3])]
        exact yes _ ⟨h1, rfl, Or.inl h3⟩
      · rw [if_neg (nI_ne h3 (by omega) (by omega))]
        unfold g80 gj80_46 gj80_47
        rw [pk_sub (show lb ≤ cl by omega), g135_s]
        simp only [bS, bZ_0]
        have e4 : decide ((1 : Int32) ≤ nI (cl - lb) ∧ nI (cl - lb) ≤ 60) = decide (1 ≤ cl - lb ∧ cl - lb ≤ 60) := by
          rw [show (1 : Int32) = nI 1 from rfl, lt_60]
          simp (disch := omega) only [nI_leI]
        rw [e4]
        by_cases h4 : 1 ≤ cl - lb ∧ cl - lb ≤ 60
        · rw [decide_eq_true h4, if_neg (show ¬ true = false by decide), a2]
          simp only [bS]
          rw [nI_s1 (by omega), t.s (by omega)]
          simp (disch := omega) only [bS, lt_32, bI_eq]
          by_cases h5 : tx bs (cl - 1) = 32
          · rw [if_pos h5, if_pos (show (0 : Int32) &&& 1 = 0 by decide)]
            simp only [bS]
            rw [if_pos trivial]
            exact no _ fun h9 => (h9.2.2.resolve_left h3).2.2.1 h5
          · rw [if_neg h5, a2]
            simp only [bS]
            rw [show (123 : Int32) = nI 123 from rfl, t.p (by decide) (show lb ≤ cl by omega) (by omega)]
            simp only [bS]
            have s9 := sc_ge (fun j => tx bs j == 123) (cl - lb) lb
            by_cases h6 : sc (fun j => tx bs j == 123) lb (cl - lb) = cl
            · rw [if_pos (by rw [h6]), if_pos (show (1 : Int32) &&& 1 = 1 by decide)]
              simp only [bS]
              rw [if_neg (by decide)]
              exact yes _ ⟨h1, trivial, Or.inr ⟨h4.1, h4.2, h5, h6⟩⟩
            · rw [if_neg (nI_ne h6 (by omega) (by omega)), if_pos (show (0 : Int32) &&& 1 = 0 by decide)]
              simp only [bS]
              rw [if_pos trivial]
              exact no _ fun h9 => h6 (h9.2.2.resolve_left h3).2.2.2
        · rw [decide_eq_false h4, if_pos (Eq.refl false), if_pos (show (0 : Int32) &&& 1 = 0 by decide)]
          simp only [bS]
          rw [if_pos trivial]
          exact no _ fun h9 => h4 ⟨(h9.2.2.resolve_left h3).1, (h9.2.2.resolve_left h3).2.1⟩
  · rw [if_pos (nI_le (by omega) (by omega))]
    exact no _ fun h9 => h1 h9.1
end PCPC
