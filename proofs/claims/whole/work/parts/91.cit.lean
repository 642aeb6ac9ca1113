section PCIT
variable {C C' : xC} {d : Nat} {bs : List Nat} {r : Rd} {F : Option (Nat × Nat)} {to : Nat}
theorem pcs_f (f : Nat → Nat) (hE : f to = 10 ∨ 256 ≤ f to) : ∀ m i gl (ps : List Pc) q, (pcs f to m i gl ps).2 = some q → i ≤ q.2 ∧ q.2 < to ∧ (q.1 = 2 ∨ q.1 = 4) := by
  intro m
  induction m with
  | zero => intro i gl ps q h; cases h
  | succ m ih =>
    intro i gl ps q h
    rw [pcs] at h
    by_cases h1 : to ≤ i
    · rw [if_pos h1] at h
      cases h
    · rw [if_neg h1] at h
      cases hp : pcOne f i to with
      | none =>
        rw [hp] at h
        cases h
        exact ⟨Nat.le_refl _, by dsimp only; omega, Or.inl rfl⟩
      | some p =>
        rw [hp] at h
        have hl := pc_le (show i < to by omega) hE hp
        obtain ⟨p1, p2, p3, p4, p5, p6⟩ := p
        dsimp only at h hl
        by_cases h2 : ps.length = 120
        · rw [if_pos h2] at h
          cases h
          exact ⟨Nat.le_refl _, by dsimp only; omega, Or.inr rfl⟩
        · rw [if_neg h2] at h
          have := ih _ _ _ q h
          have k := skp_ge (f := f) (show p6 ≤ to by omega)
          omega
theorem rdPcs_f {f : Nat → Nat} (hE : f to = 10 ∨ 256 ≤ f to) {i : Nat} (hi : i ≤ to) {q : Nat × Nat} (h : (rdPcs f to i r).2 = some q) : i ≤ q.2 ∧ q.2 < to ∧ (q.1 = 2 ∨ q.1 = 4) := by
  have := pcs_f f hE 700 (skp f i to) false r.2 q h
  have k := skp_ge (f := f) hi
  omega
theorem cmb_k {f : Nat × Nat} {G : Option (Nat × Nat)} (h : ∀ q, G = some q → f.2 < q.2 ∨ (f.2 = q.2 ∧ f.1 ≤ q.1)) : cmb (some f) G = some f := by
  cases G with
  | none => rfl
  | some q =>
    have := h q rfl
    unfold cmb
    dsimp only
    rw [if_neg (by omega)]
theorem cmb_l {f g : Nat × Nat} (h : g.2 < f.2 ∨ (g.2 = f.2 ∧ g.1 < f.1)) : cmb (some f) (some g) = some g := if_pos h
/-- what a line answers -/
def clO (C C' : xC) (d : Nat) (o : Rd × Option (Nat × Nat)) : Prop := rdW d C C' ∧ nS C' ∧ match o.2 with
  | none => fS C' none ∧ cRd C' d o.1 ∧ cR C' 5 3 = some (d + 4 + (o.1.1.length - 1))
  | some q => fS C' (some q)
theorem clO_f {q : Nat × Nat} (E : rdW d C C') (N : nS C') (h : fS C' (some q)) : clO C C' d (r, some q) := ⟨E, N, h⟩
def orF (r : Rd) (G : Option (Nat × Nat)) (o : Rd × Option (Nat × Nat)) : Rd × Option (Nat × Nat) := match G with
  | some q => (r, some q)
  | none => o
/-- the sort of a line -/
theorem e_64 {c : Nat} : (bI c = 64) = (c = 64) := propext (bI_eq (d := 64) (by decide))
theorem e_45 {c : Nat} : (bI c = 45) = (c = 45) := propext (bI_eq (d := 45) (by decide))
theorem e_32 {c : Nat} : (bI c = 32) = (c = 32) := propext (bI_eq (d := 32) (by decide))
theorem e_10 {c : Nat} : (bI c = 10) = (c = 10) := propext (bI_eq (d := 10) (by decide))
theorem g64_s (R : rS C d bs) {x : Nat} (hx : x < 1000) (ht : to < 1000) : g64 5 (nI x) (nI to) C = some (nI (if to ≤ x then 0 else if tx bs x = 64 then 1 else if isIt (tx bs) x to = true then 2 else 3), C) := by
  obtain ⟨⟨a1, a2⟩, b, t, hd⟩ := R
  unfold g64 gj64_61 gj64_57 gj64_62 gj64_72
  by_cases h : to ≤ x
  · rw [if_neg (nI_nlt h (by omega)), if_pos h]
    rfl
  · rw [if_pos (nI_lt (by omega) (by omega)), if_neg h, a2]
    simp only [bS]
    rw [t.s (by omega)]
    simp only [bS, e_64]
    by_cases h1 : tx bs x = 64
    · rw [if_pos h1, if_pos h1]
      rfl
    · rw [if_neg h1, if_neg h1, a2]
      simp only [bS]
      rw [t.s (by omega)]
      simp only [bS, e_45]
      rw [if_neg (show ¬ (1 : Int32) = 0 by decide)]
      unfold isIt
      by_cases h2 : tx bs x = 45
      · rw [if_pos h2, h2, nI_1]
        by_cases h3 : x + 1 = to
        · rw [if_pos (by rw [h3]), decide_eq_true h3]
          rfl
        · rw [if_neg (nI_ne h3 (by omega) (by omega)), decide_eq_false h3, a2]
          simp only [bS]
          rw [t.s (by omega)]
          simp only [bS, e_32]
          by_cases h4 : tx bs (x + 1) = 32
          · rw [if_pos h4, h4]
            rfl
          · rw [if_neg h4, show (tx bs (x + 1) == 32) = false by simpa using h4]
            rfl
      · rw [if_neg h2, show (tx bs x == 45) = false by simpa using h2]
        rfl
theorem g138_s {s : Nat} (h : s < 2 ^ 31) : g138 (nI s) C = some (bZ (isTg s), C) := by
  unfold g138 gj138_15 gj138_16 isTg
  by_cases h1 : s < 2
  · rw [if_pos (show nI s < 2 from nI_lt (b := 2) h1 (by decide)), decide_eq_false (show ¬ 2 ≤ s by omega)]
    rfl
  · rw [if_neg (show ¬ nI s < 2 from nI_nlt (b := 2) (by omega) h), decide_eq_true (show 2 ≤ s by omega)]
    by_cases h2 : 6 < s
    · rw [if_pos (show (6 : Int32) < nI s from nI_lt (a := 6) h2 h), decide_eq_false (show ¬ s ≤ 6 by omega)]
      rfl
    · rw [if_neg (show ¬ (6 : Int32) < nI s from nI_nlt (a := 6) (by omega) (by decide)), decide_eq_true (show s ≤ 6 by omega)]
      rfl
def opO (d : Nat) (r : Rd) : Option Nat := if r.1.length = 0 then none else some (d + 4 + (r.1.length - 1))
theorem last_c (T : cRd C d r) (hL : 0 < r.1.length) : cBk C d (d + 4 + (r.1.length - 1)) (lastB r) := by
  rw [lastB_g hL]
  exact T.1.2 _ (by omega)
/-- a tag is open -/
theorem g65_s (T : cRd C d r) (hB : ∀ b ∈ r.1, bSo b ≤ 7 ∧ bDe b ≤ 2) (h3 : cR C 5 3 = opO d r) : g65 5 C = some (bZ (hasTg r), C) := by
  unfold g65 gj65_24 gj65_25 hasTg
  rw [h3]
  unfold opO
  by_cases h : r.1.length = 0
  · rw [if_pos h, if_pos (Eq.refl none), decide_eq_false (show ¬ 0 < r.1.length by omega)]
    rfl
  · have hx := hB _ (lastB_mem (r := r) (by omega))
    rw [if_neg h, if_neg (by simp), decide_eq_true (show 0 < r.1.length by omega)]
    simp only [bS]
    rw [(last_c T (by omega)).2.1, g138_s (by omega)]
    simp only [bS, bZ_0]
    cases isTg (bSo (lastB r)) <;> rfl
/-- a block is opened -/
theorem g66_s (R : rS C d bs) (T : cRd C d r) (hF : fS C F) (h24 : r.1.length ≤ 24) (h120 : r.2.length ≤ 120) (so : Nat) {pl : Nat} (hp : pl < 1000) : ∃ C', g66 5 (nI so) (nI pl) C = some C' ∧ fS C' (cmb F (if r.1.length = 24 then some (4, pl) else none)) ∧ cRd C' d (opn r so pl 0 0 0 false) ∧ cR C' 5 3 = some (d + 4 + r.1.length) ∧ rdE d C C' := by
  obtain ⟨⟨a1, a2⟩, b, t, hd⟩ := id R
  obtain ⟨D, d1, d2, d3, d4, d5⟩ := g7_s b T hd (show r.1.length < 25 by omega) h120 so pl
  unfold g66 gj66_32 gj66_38
  rw [a1]
  simp only [bS]
  rw [d1]
  simp only [bS]
  have E1 : rdE d D (uR D 5 3 (some (d + 4 + r.1.length))) := ⟨eqO.uR (fun h9 => h9.1 rfl), fun k => by rw [uR_n (by omega)], fun k hk => by rw [uR_n (by omega)], by rw [uR_i], rfl, rfl⟩
  have T1 : cRd (uR D 5 3 (some (d + 4 + r.1.length))) d (opn r so pl 0 0 0 false) := cRd_eq d2 (by rw [opn_len]; omega) h120 hd (eqO.uR (fun h9 => h9.1 rfl))
  have F1 : fS (uR D 5 3 (some (d + 4 + r.1.length))) F := hF.kp (by rw [uR_i]; exact d5 5) (by rw [uR_i]; exact d5 6)
  have k3 : cR (uR D 5 3 (some (d + 4 + r.1.length))) 5 3 = some (d + 4 + r.1.length) := uR_e
  have k1 : cR (uR D 5 3 (some (d + 4 + r.1.length))) 5 1 = some d := by rw [uR_n (by omega), d4]; exact a1
  generalize uR D 5 3 (some (d + 4 + r.1.length)) = V at E1 T1 F1 k3 k1 ⊢
  have n1 := T1.1.1
  rw [opn_len] at n1
  rw [k3, if_neg (by simp), k1]
  simp only [bS]
  rw [n1]
  by_cases h : r.1.length = 24
  · rw [if_neg (show ¬ nI (r.1.length + 1) ≤ 24 from nI_ge (a := 24) (b := r.1.length + 1) (by omega) (by omega)), if_pos h]
    obtain ⟨W, w1, w2, w3, w4, w5⟩ := g62_s F1 (c := 4) (p := pl) (by decide) hp
    rw [show (4 : Int32) = nI 4 from rfl, w1]
    exact ⟨W, rfl, w2, cRd_eq T1 (by rw [opn_len]; omega) h120 hd (w3.mono fun a ha => ha.1), by rw [w4]; exact k3, (d3.tr E1).tr (w5 d)⟩
  · rw [if_pos (show nI (r.1.length + 1) ≤ 24 from nI_le (a := r.1.length + 1) (b := 24) (by omega) (by decide)), if_neg h]
    exact ⟨V, rfl, F1, T1, k3, d3.tr E1⟩
/-- the open block is written -/
theorem cRd_ob {so pl de nf nt de2 nf2 nt2 : Nat} {jo jo2 : Bool} (T : cRd C d (opn r so pl de nf nt jo)) (h24 : r.1.length ≤ 24) (h120 : r.2.length ≤ 120) (E : eqO (fun a => a ≠ d + 4 + r.1.length) C C') (h : cBk C' d (d + 4 + r.1.length) (so, pl, de2, r.2.length, 0, nf2, nt2, jo2)) : cRd C' d (opn r so pl de2 nf2 nt2 jo2) := by
  obtain ⟨⟨t1, t2⟩, t3, t4⟩ := T
  rw [opn_len] at t1 t2
  have e0 := E d (by omega)
  refine ⟨⟨by rw [e0.1, opn_len]; exact t1, fun k hk => ?_⟩, by rw [e0.1]; exact t3, fun k hk => (t4 k hk).kp E (by have hk : k < r.2.length := hk; omega)⟩
  rw [opn_len] at hk
  have b := t2 k hk
  rw [opn_get] at b ⊢
  by_cases h9 : k = r.1.length
  · rw [if_pos h9, h9]
    exact h
  · rw [if_neg h9] at b ⊢
    exact b.kp E (by omega)
/-- item -/
theorem g67_s (ht : to ≤ bs.length) (hE : tx bs to = 10 ∨ 256 ≤ tx bs to) (R : rS C d bs) (T : cRd C d r) (hF : fS C none) (N : nS C) (h24 : r.1.length ≤ 24) (h120 : r.2.length ≤ 120) (hB : ∀ b ∈ r.1, bSo b ≤ 7 ∧ bDe b ≤ 2) (h3 : cR C 5 3 = opO d r) {gap : Bool} (h4 : cI C 5 4 = bZ gap) {fi bl : Nat} (hfi : fi < to) (hbl : bl ≤ 600) : ∃ C', g67 5 (nI fi) (nI to) (nI bl) C = some C' ∧ clO C C' d (rdItem (tx bs) fi to bl gap r) := by
  obtain ⟨⟨a1, a2⟩, b, t, hd⟩ := id R
  have t5 := t.2.2.2.2.1
  -- who is ahead
  have e1 : g67 5 (nI fi) (nI to) (nI bl) C = gj67_30 5 (nI fi) (nI to) (nI bl) (bZ (decide (0 < r.1.length) && !gap && decide (bSo (lastB r) = 1))) C := by
    unfold g67 gj67_29
    rw [h3]
    unfold opO
    by_cases h : r.1.length = 0
    · rw [if_pos h, if_pos (Eq.refl none), decide_eq_false (show ¬ 0 < r.1.length by omega)]
      rfl
    · have hx := hB _ (lastB_mem (r := r) (by omega))
      rw [if_neg h, if_neg (by simp), decide_eq_true (show 0 < r.1.length by omega)]
      simp only [bS]
      rw [(last_c T (by omega)).2.1, h4]
      by_cases h1 : bSo (lastB r) = 1
      · rw [if_pos (by rw [h1]; rfl), decide_eq_true h1]
        cases gap <;> rfl
      · rw [if_neg (show ¬ _ = (1 : Int32) from nI_ne h1 (by omega) (by decide)), decide_eq_false h1]
        cases gap <;> rfl
  rw [e1]
  unfold rdItem
  dsimp only
  have ah0 : (decide (0 < r.1.length) && !gap && decide (bSo (lastB r) = 1)) = true → 0 < r.1.length := fun h => by
    simp at h
    omega
  generalize (decide (0 < r.1.length) && !gap && decide (bSo (lastB r) = 1)) = ah at ah0 ⊢
  have e2 : ∃ mo, mo ≤ 2 ∧ (bl / 2 ≤ mo ↔ ¬ (2 < bl / 2 ∨ (if ah = true then bDe (lastB r) + 1 else 0) < bl / 2)) ∧ gj67_30 5 (nI fi) (nI to) (nI bl) (bZ ah) C = gj67_54 5 (nI fi) (nI to) (nI bl) (bZ ah) (nI mo) C := by
    unfold gj67_30
    cases ah with
    | false =>
      rw [if_neg (show ¬ false = true by decide), if_pos bZf]
      exact ⟨0, by omega, by omega, rfl⟩
    | true =>
      have hL := ah0 rfl
      have hx := hB _ (lastB_mem hL)
      rw [if_pos rfl, if_neg bZt, h3]
      unfold opO
      rw [if_neg (by omega)]
      simp only [bS]
      rw [(last_c T hL).2.2.2.1, nI_1]
      unfold xmin
      by_cases h : bDe (lastB r) + 1 < 2
      · rw [if_pos (show nI (bDe (lastB r) + 1) < 2 from nI_lt (b := 2) h (by decide))]
        exact ⟨_, by omega, by omega, rfl⟩
      · rw [if_neg (show ¬ nI (bDe (lastB r) + 1) < 2 from nI_nlt (b := 2) (by omega) (by omega))]
        exact ⟨2, by omega, by omega, rfl⟩
  obtain ⟨mo, m1, m2, e3⟩ := e2
  rw [e3]
  generalize (if ah = true then bDe (lastB r) + 1 else 0) = most at m2 ⊢
  have hh : nI bl / 2 = nI (bl / 2) := pk_div (d := 2) (by omega) (by decide) (by decide)
  have hr : nI bl &&& 1 = nI (bl % 2) := pk_andN (by omega) 1 (by decide)
  -- the block, the pieces
  have e89 : ∀ (G : Option (Nat × Nat)) (D : xC), (∀ q, G = some q → q.2 = fi ∧ q.1 ≤ 3) → fS D G → rdE d C D → cR D 5 3 = opO d r → cRd D d r → ∃ C', gj67_89 5 (nI fi) (nI to) (nI bl) (bZ ah) (nI mo) D = some C' ∧ clO C C' d (orF r G (if r.1.length = 24 then (r, some (4, fi)) else rdPcs (tx bs) to (fi + 1) (opn r 1 fi (bl / 2) 0 0 ah))) := fun G D hG FD ED k3 TD => by
    obtain ⟨V, v1, v2, v3, v4, v5⟩ := g66_s (R.kp ED) TD FD h24 h120 1 (pl := fi) (by omega)
    unfold gj67_89 gj67_129
    rw [show (1 : Int32) = nI 1 from rfl, v1]
    simp only [bS]
    rw [v4, if_neg (by simp)]
    simp only [bS]
    rw [show nI 1 = (1 : Int32) from rfl, if_pos bZ_p, uI_r, v4]
    simp only [bS]
    rw [hh, nI_1]
    have E2 : rdE d V (uI (uI V (d + 4 + r.1.length) 3 (nI (bl / 2))) (d + 4 + r.1.length) 8 (bZ ah)) := (rdE_bk hd (by omega)).tr (rdE_bk hd (by omega))
    have b0 := v3.1.2 r.1.length (by rw [opn_len]; omega)
    rw [opn_get, if_pos rfl] at b0
    obtain ⟨b1, b2, b3, b4, b5, b6, b7, b8⟩ := b0
    have T2 : cRd (uI (uI V (d + 4 + r.1.length) 3 (nI (bl / 2))) (d + 4 + r.1.length) 8 (bZ ah)) d (opn r 1 fi (bl / 2) 0 0 ah) := by
      refine cRd_ob v3 h24 h120 ((eqO.uI (fun h9 => h9 rfl)).tr (eqO.uI (fun h9 => h9 rfl))) ⟨?_, ?_, ?_, ?_, ?_, ?_, fun h9 => absurd h9 (by show ¬ isTg 1 = true; decide), ?_⟩
      · simp (disch := omega) only [uI_r]; exact b1
      · simp (disch := omega) only [uI_n]; exact b2
      · simp (disch := omega) only [uI_n]; exact b3
      · simp (disch := omega) only [uI_n, uI_e]; rfl
      · simp (disch := omega) only [uI_n]; exact b5
      · simp (disch := omega) only [uI_n]; exact b6
      · simp (disch := omega) only [uI_e]; rfl
    have F2 : fS (uI (uI V (d + 4 + r.1.length) 3 (nI (bl / 2))) (d + 4 + r.1.length) 8 (bZ ah)) (cmb G (if r.1.length = 24 then some (4, fi) else none)) := v2.kp (by rw [uI_n (by omega), uI_n (by omega)]) (by rw [uI_n (by omega), uI_n (by omega)])
    have k5 : cR (uI (uI V (d + 4 + r.1.length) 3 (nI (bl / 2))) (d + 4 + r.1.length) 8 (bZ ah)) 5 3 = some (d + 4 + ((opn r 1 fi (bl / 2) 0 0 ah).1.length - 1)) := by rw [opn_len, uI_r, uI_r, v4, Nat.add_sub_cancel]
    have E3 := (ED.tr v5).tr E2
    generalize uI (uI V (d + 4 + r.1.length) 3 (nI (bl / 2))) (d + 4 + r.1.length) 8 (bZ ah) = V2 at T2 F2 k5 E3 ⊢
    obtain ⟨W, w1, w2, w3, w4, w5⟩ := g74_s ht hE (show fi + 1 ≤ to by omega) (R.kp E3) T2 F2 (by rw [opn_len]; omega) (by rw [opn_len]; omega) h120 k5
    rw [w1]
    have E4 := E3.tr w4
    refine ⟨W, rfl, E4.w, N.kp hd E4, ?_⟩
    have pf : ∀ q, (rdPcs (tx bs) to (fi + 1) (opn r 1 fi (bl / 2) 0 0 ah)).2 = some q → fi < q.2 := fun q hq => by
      have := rdPcs_f hE (show fi + 1 ≤ to by omega) hq
      omega
    cases G with
    | some q =>
      have hq := hG q rfl
      show fS W (some q)
      rw [cmb_k (f := q) (G := if r.1.length = 24 then some (4, fi) else none) (fun p hp => by
        by_cases h9 : r.1.length = 24
        · rw [if_pos h9] at hp
          cases hp
          dsimp only
          omega
        · rw [if_neg h9] at hp
          cases hp), cmb_k (fun p hp => by have := pf p hp; omega)] at w2
      exact w2
    | none =>
      unfold orF
      dsimp only
      by_cases h9 : r.1.length = 24
      · rw [if_pos h9] at w2 ⊢
        rw [n_cmb, cmb_k (fun p hp => by have := pf p hp; dsimp only; omega)] at w2
        exact w2
      · rw [if_neg h9] at w2 ⊢
        rw [n_cmb, n_cmb] at w2
        cases ho : (rdPcs (tx bs) to (fi + 1) (opn r 1 fi (bl / 2) 0 0 ah)).2 with
        | some q =>
          rw [ho] at w2
          exact w2
        | none =>
          rw [ho] at w2
          refine ⟨w2, w3 ho, ?_⟩
          rw [w5, k5, rdPcs_eq]
          dsimp only
          rw [upR_len (by rw [opn_len]; omega)]
  -- the depth
  have e69 : ∀ (G : Option (Nat × Nat)) (D : xC), (∀ q, G = some q → q.2 = fi ∧ q.1 ≤ 2) → fS D G → rdE d C D → cR D 5 3 = opO d r → cRd D d r → ∃ C', gj67_69 5 (nI fi) (nI to) (nI bl) (bZ ah) (nI mo) D = some C' ∧ clO C C' d (orF r G (if bl % 2 = 1 ∨ 2 < bl / 2 ∨ most < bl / 2 then (r, some (3, fi)) else if r.1.length = 24 then (r, some (4, fi)) else rdPcs (tx bs) to (fi + 1) (opn r 1 fi (bl / 2) 0 0 ah))) := fun G D hG FD ED k3 TD => by
    have bad : ∃ C', gj67_83 5 (nI fi) (nI to) (nI bl) (bZ ah) (nI mo) D = some C' ∧ clO C C' d (orF r G (r, some (3, fi))) := by
      obtain ⟨U, u1, u2, u3, u4, u5⟩ := g62_s FD (c := 3) (p := fi) (by decide) (by omega)
      unfold gj67_83
      rw [show (3 : Int32) = nI 3 from rfl, u1]
      simp only [bS]
      obtain ⟨W, w1, w2⟩ := e89 (cmb G (some (3, fi))) U (fun q hq => by
        cases G with
        | none => cases hq; exact ⟨rfl, Nat.le_refl _⟩
        | some p =>
          have hp := hG p rfl
          rw [cmb_k (f := p) (fun x hx => by cases hx; dsimp only; omega)] at hq
          cases hq
          omega) u2 (ED.tr (u5 d)) (by rw [u4]; exact k3) (cRd_eq TD (by omega) h120 hd (u3.mono fun a ha => ha.1))
      refine ⟨W, w1, ?_⟩
      cases G with
      | none => exact w2
      | some p =>
        have hp := hG p rfl
        rw [cmb_k (f := p) (fun x hx => by cases hx; dsimp only; omega)] at w2
        exact w2
    have good := e89 G D (fun q hq => by have := hG q hq; omega) FD ED k3 TD
    unfold gj67_69
    rw [hr, hh]
    by_cases c1 : bl % 2 = 1
    · rw [if_neg (show ¬ nI (bl % 2) = 0 from nI_ne0 (by omega) (by omega)), if_pos (show bl % 2 = 1 ∨ 2 < bl / 2 ∨ most < bl / 2 from Or.inl c1)]
      exact bad
    · rw [if_pos (show nI (bl % 2) = 0 by rw [show bl % 2 = 0 by omega]; rfl)]
      by_cases c2 : bl / 2 ≤ mo
      · rw [if_pos (nI_le c2 (by omega)), if_neg (show ¬ (bl % 2 = 1 ∨ 2 < bl / 2 ∨ most < bl / 2) by have := m2.mp c2; omega)]
        exact good
      · rw [if_neg (nI_ge (by omega) (by omega)), if_pos (show bl % 2 = 1 ∨ 2 < bl / 2 ∨ most < bl / 2 from Or.inr (Classical.byContradiction fun h9 => c2 (m2.mpr h9)))]
        exact bad
  unfold gj67_54
  rw [g65_s T hB h3]
  simp only [bS, bZ_0]
  cases hasTg r with
  | false =>
    rw [if_pos (Eq.refl false), if_neg (show ¬ false = true by decide)]
    exact e69 none C (fun q hq => by cases hq) hF rdE.rfl' h3 T
  | true =>
    rw [if_neg (show ¬ true = false by decide), if_pos (Eq.refl true)]
    obtain ⟨U, u1, u2, u3, u4, u5⟩ := g62_s hF (c := 2) (p := fi) (by decide) (by omega)
    rw [show (2 : Int32) = nI 2 from rfl, u1]
    simp only [bS]
    exact e69 (some (2, fi)) U (fun q hq => by cases hq; exact ⟨rfl, Nat.le_refl _⟩) u2 (u5 d) (by rw [u4]; exact h3) (cRd_eq T (by omega) h120 hd (u3.mono fun a ha => ha.1))
end PCIT
