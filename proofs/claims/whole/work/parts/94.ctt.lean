section PCTT
variable {C C' : xC} {d : Nat} {bs : List Nat} {r : Rd} {F : Option (Nat × Nat)} {to : Nat}
theorem skp_skp {f : Nat → Nat} {i : Nat} (hi : i ≤ to) : skp f (skp f i to) to = skp f i to := by
  have k := skp_ge (f := f) hi
  generalize skp f i to = x at k ⊢
  by_cases h : x < to
  · obtain ⟨m, hm⟩ : ∃ m, to - x = m + 1 := ⟨to - x - 1, by omega⟩
    unfold skp
    rw [hm]
    exact sc_t (by simpa using k.2.2 h)
  · unfold skp
    rw [show to - x = 0 by omega]
    rfl
theorem rdPcs_sk {f : Nat → Nat} {i : Nat} (hi : i ≤ to) : rdPcs f to (skp f i to) r = rdPcs f to i r := by
  rw [rdPcs_eq, rdPcs_eq, skp_skp hi]
/-- behind the name of a tag -/
theorem g71_b (ht : to ≤ bs.length) (hE : tx bs to = 10 ∨ 256 ≤ tx bs to) (R : rS C d bs) (h24 : r.1.length ≤ 24) (h120 : r.2.length ≤ 120) {fi e so s0 nf nt : Nat} (hso : so ≤ 6) {D : xC} {G : Option (Nat × Nat)} (hs : s0 ≤ to) (E : rdW d C D) (N : nS D) (FD : fS D G) (T : cRd D d (opn r so fi 0 nf nt false)) (k3 : cR D 5 3 = some (d + 4 + r.1.length)) (hG : ∀ q, G = some q → ∀ p, s0 ≤ p → p < to → q.2 < p) : ∃ C', gj71_93 5 (nI fi) (nI to) (nI e) (nI so) (nI s0) D = some C' ∧ clO C C' d (orF r G (if so = 5 ∨ so = 6 then (opn r so fi 0 nf nt false, if skp (tx bs) s0 to < to then some (2, skp (tx bs) s0 to) else none) else rdPcs (tx bs) to s0 (opn r so fi 0 nf nt false))) := by
  have RD := R.kw E
  have hd := R.2.2.2
  have t5 := RD.2.2.1.2.2.2.2.1
  have k1 := skp_ge (f := tx bs) hs
  have k33 : cR D 5 3 = some (d + 4 + ((opn r so fi 0 nf nt false).1.length - 1)) := by rw [opn_len, Nat.add_sub_cancel]; exact k3
  have lb : bSo (lastB (opn r so fi 0 nf nt false)) = so := by rw [opn_last]; rfl
  have b2 := (last_c T (by rw [opn_len]; omega)).2.1
  rw [opn_len, Nat.add_sub_cancel, lb] at b2
  unfold gj71_93
  rw [RD.1.2]
  simp only [bS]
  rw [RD.2.2.1.k hs (by omega)]
  simp only [bS]
  rw [k3, if_neg (by simp)]
  simp only [bS]
  rw [g2_s b2 (by omega)]
  simp only [bS, bZ_0]
  by_cases h : so = 5 ∨ so = 6
  · rw [decide_eq_true h, if_neg (show ¬ true = false by decide), if_pos h]
    unfold gj71_147
    by_cases h1 : skp (tx bs) s0 to < to
    · rw [if_neg (nI_ge h1 (by omega)), if_pos h1]
      obtain ⟨U, u1, u2, u3, u4, u5⟩ := g62_s FD (c := 2) (p := skp (tx bs) s0 to) (by decide) (by omega)
      rw [show (2 : Int32) = nI 2 from rfl, u1]
      refine ⟨U, rfl, E.tr (u5 d).w, N.kp hd (u5 d), ?_⟩
      cases G with
      | none => exact u2
      | some q =>
        rw [cmb_k (fun p hp => by cases hp; have := hG q rfl (skp (tx bs) s0 to) k1.1 h1; dsimp only; omega)] at u2
        exact u2
    · rw [if_pos (nI_le (by omega) (by omega)), if_neg h1]
      refine ⟨D, rfl, E, N, ?_⟩
      cases G with
      | none => exact ⟨FD, T, k33⟩
      | some q => exact FD
  · rw [decide_eq_false h, if_pos (Eq.refl false), if_neg h]
    unfold gj71_124 gj71_147
    obtain ⟨W, w1, w2, w3, w4, w5⟩ := g74_s ht hE (show skp (tx bs) s0 to ≤ to by omega) RD T FD (by rw [opn_len]; omega) (by rw [opn_len]; omega) h120 k33
    rw [w1]
    rw [rdPcs_sk hs] at w2 w3
    refine ⟨W, rfl, E.tr w4.w, N.kp hd w4, ?_⟩
    cases G with
    | some q =>
      rw [cmb_k (fun p hp => by
        have := rdPcs_f hE hs hp
        have := hG q rfl p.2 this.1 this.2.1
        omega)] at w2
      exact w2
    | none =>
      rw [n_cmb] at w2
      unfold orF
      dsimp only
      cases ho : (rdPcs (tx bs) to s0 (opn r so fi 0 nf nt false)).2 with
      | some q =>
        rw [ho] at w2
        exact w2
      | none =>
        rw [ho] at w2
        refine ⟨w2, w3 ho, ?_⟩
        rw [w5, k33, rdPcs_eq]
        dsimp only
        rw [upR_len (by rw [opn_len]; omega)]
/-- the name is written -/
theorem ob_nm {so fi a z : Nat} {D : xC} (T : cRd D d (opn r so fi 0 0 0 false)) (h24 : r.1.length ≤ 24) (h120 : r.2.length ≤ 120) : cRd (uI (uI D (d + 4 + r.1.length) 6 (nI a)) (d + 4 + r.1.length) 7 (nI z)) d (opn r so fi 0 a z false) := by
  have b0 := T.1.2 r.1.length (by rw [opn_len]; omega)
  rw [opn_get, if_pos rfl] at b0
  obtain ⟨b1, b2, b3, b4, b5, b6, b7, b8⟩ := b0
  refine cRd_ob T h24 h120 ((eqO.uI (fun h9 => h9 rfl)).tr (eqO.uI (fun h9 => h9 rfl))) ⟨?_, ?_, ?_, ?_, ?_, ?_, fun _ _ => ⟨?_, ?_⟩, ?_⟩
  · simp (disch := omega) only [uI_r]; exact b1
  · simp (disch := omega) only [uI_n]; exact b2
  · simp (disch := omega) only [uI_n]; exact b3
  · simp (disch := omega) only [uI_n]; exact b4
  · simp (disch := omega) only [uI_n]; exact b5
  · simp (disch := omega) only [uI_n]; exact b6
  · simp (disch := omega) only [uI_n, uI_e]; rfl
  · simp (disch := omega) only [uI_e]; rfl
  · simp (disch := omega) only [uI_n]; exact b8
/-- tag -/
theorem g71_s (ht : to ≤ bs.length) (hE : tx bs to = 10 ∨ 256 ≤ tx bs to) (R : rS C d bs) (T : cRd C d r) (hF : fS C none) (N : nS C) {p0 : Nat} (w : wRd (tx bs) bs.length p0 r) (h3 : cR C 5 3 = opO d r) {fi : Nat} (hfi : fi < to) : ∃ C', g71 5 (nI fi) (nI to) C = some C' ∧ clO C C' d (rdTag bs fi to r) := by
  obtain ⟨⟨a1, a2⟩, b, t, hd⟩ := id R
  have t5 := t.2.2.2.2.1
  have h24 := w.1
  have h120 := w.2.1
  have hB : ∀ b ∈ r.1, bSo b ≤ 7 ∧ bDe b ≤ 2 := fun b hb => ⟨(w.2.2.1 b hb).1, (w.2.2.1 b hb).2.2.1⟩
  unfold g71 rdTag
  rw [a2]
  simp only [bS]
  rw [nI_1, show (32 : Int32) = nI 32 from rfl, t.p (by decide) (show fi + 1 ≤ to by omega) (by omega)]
  simp only [bS]
  have e1 := sc_ge (fun j => tx bs j == 32) (to - (fi + 1)) (fi + 1)
  generalize sc (fun j => tx bs j == 32) (fi + 1) (to - (fi + 1)) = e at e1 ⊢
  rw [g70_s R e1.1 (by omega)]
  simp only [bS]
  have q1 := tgSo_le (f := tx bs) (i := fi + 1) (e := e)
  generalize tgSo (tx bs) (fi + 1) e = so at q1 ⊢
  by_cases c0 : so = 0
  · rw [if_pos c0, if_pos c0, if_pos (Eq.refl _)]
    obtain ⟨U, u1, u2, u3, u4, u5⟩ := g62_s hF (c := 2) (p := fi) (by decide) (by omega)
    rw [show (2 : Int32) = nI 2 from rfl, u1]
    exact ⟨U, rfl, clO_f (u5 d).w (N.kp hd (u5 d)) u2⟩
  rw [if_neg c0, if_neg c0, if_neg (nI_nm (by omega))]
  have s2 := q1.2 c0
  -- behind the look for another one
  have e68 : ∀ (D : xC) (G9 : Option (Nat × Nat)), (G9 = none ∨ G9 = some (5, fi)) → rdE d C D → cRd D d r → fS D G9 → ∃ C', gj71_68 5 (nI fi) (nI to) (nI e) (nI so) D = some C' ∧ clO C C' d (if r.1.length = 24 then (r, some (4, fi)) else orF r G9 (if so = 3 then rdPcs (tx bs) to e (opn r 3 fi 0 e e false)
      else if (if so = 2 then nmOK (tx bs) (skp (tx bs) e to) (sc (fun j => tx bs j == 32) (skp (tx bs) e to) (to - skp (tx bs) e to) - skp (tx bs) e to) else if so = 6 then nuOK (tx bs) (skp (tx bs) e to) (sc (fun j => tx bs j == 32) (skp (tx bs) e to) (to - skp (tx bs) e to) - skp (tx bs) e to) else rfOK (tx bs) (skp (tx bs) e to) (sc (fun j => tx bs j == 32) (skp (tx bs) e to) (to - skp (tx bs) e to) - skp (tx bs) e to)) = false then (r, some (2, skp (tx bs) e to))
      else if so = 2 ∧ r.1.any (fun b => decide (bSo b = 2) && decide (cut bs (bNf b) (bNt b) = cut bs (skp (tx bs) e to) (sc (fun j => tx bs j == 32) (skp (tx bs) e to) (to - skp (tx bs) e to)))) = true then (r, some (5, fi))
      else if so = 5 ∨ so = 6 then (opn r so fi 0 (skp (tx bs) e to) (sc (fun j => tx bs j == 32) (skp (tx bs) e to) (to - skp (tx bs) e to)) false, if skp (tx bs) (sc (fun j => tx bs j == 32) (skp (tx bs) e to) (to - skp (tx bs) e to)) to < to then some (2, skp (tx bs) (sc (fun j => tx bs j == 32) (skp (tx bs) e to) (to - skp (tx bs) e to)) to) else none)
      else rdPcs (tx bs) to (sc (fun j => tx bs j == 32) (skp (tx bs) e to) (to - skp (tx bs) e to)) (opn r so fi 0 (skp (tx bs) e to) (sc (fun j => tx bs j == 32) (skp (tx bs) e to) (to - skp (tx bs) e to)) false))) := fun D G9 hG9 ED TD FD => by
    obtain ⟨V, v1, v2, v3, v4, v5⟩ := g66_s (R.kp ED) TD FD h24 h120 so (pl := fi) (by omega)
    have EV := ED.tr v5
    have NV := N.kp hd EV
    have RV := R.kp EV
    have eG : ∀ X : Rd × Option (Nat × Nat), (if r.1.length = 24 then (r, some (4, fi)) else orF r G9 X) = orF r (cmb G9 (if r.1.length = 24 then some (4, fi) else none)) X := fun X => by
      by_cases h9 : r.1.length = 24
      · rw [if_pos h9, if_pos h9]
        rcases hG9 with rfl | rfl
        · rfl
        · rw [cmb_s (by decide)]
          rfl
      · rw [if_neg h9, if_neg h9, cmb_n]
    have hG : ∀ q, cmb G9 (if r.1.length = 24 then some (4, fi) else none) = some q → q.2 = fi ∧ q.1 ≤ 5 := fun q hq => by
      by_cases h9 : r.1.length = 24
      · rw [if_pos h9] at hq
        rcases hG9 with rfl | rfl
        · cases hq
          exact ⟨rfl, by dsimp only; omega⟩
        · rw [cmb_s (by decide)] at hq
          cases hq
          exact ⟨rfl, by dsimp only; omega⟩
      · rw [if_neg h9, cmb_n] at hq
        rcases hG9 with rfl | rfl
        · cases hq
        · cases hq
          exact ⟨rfl, by dsimp only; omega⟩
    rw [eG]
    generalize cmb G9 (if r.1.length = 24 then some (4, fi) else none) = G at v2 hG ⊢
    unfold gj71_68
    rw [v1]
    simp only [bS]
    by_cases c3 : so = 3
    · rw [if_pos (by rw [c3]; rfl), if_pos c3]
      subst c3
      have b0 := v3.1.2 r.1.length (by rw [opn_len]; omega)
      rw [opn_get, if_pos rfl] at b0
      obtain ⟨b1, b2, b3, b4, b5, b6, b7, b8⟩ := b0
      have T3 : cRd V d (opn r 3 fi 0 e e false) := cRd_ob v3 h24 h120 eqO.rfl' ⟨b1, b2, b3, b4, b5, b6, fun _ h9 => absurd rfl h9, b8⟩
      have := g71_b (e := e) ht hE R h24 h120 (by decide) (show e ≤ to by omega) EV.w NV v2 T3 v4 (fun q hq p hp _ => by have := hG q hq; omega)
      rw [if_neg (by decide)] at this
      exact this
    · rw [if_neg (show ¬ _ = (3 : Int32) from nI_ne c3 (by omega) (by decide)), if_neg c3]
      have k1 := skp_ge (f := tx bs) (show e ≤ to by omega)
      have e72 : g72 5 (nI so) (nI e) (nI to) V = gj72_81 5 (nI so) (nI e) (nI to) (nI (skp (tx bs) e to)) (nI (sc (fun j => tx bs j == 32) (skp (tx bs) e to) (to - skp (tx bs) e to))) (bZ (if so = 2 then nmOK (tx bs) (skp (tx bs) e to) (sc (fun j => tx bs j == 32) (skp (tx bs) e to) (to - skp (tx bs) e to) - skp (tx bs) e to) else if so = 6 then nuOK (tx bs) (skp (tx bs) e to) (sc (fun j => tx bs j == 32) (skp (tx bs) e to) (to - skp (tx bs) e to) - skp (tx bs) e to) else rfOK (tx bs) (skp (tx bs) e to) (sc (fun j => tx bs j == 32) (skp (tx bs) e to) (to - skp (tx bs) e to) - skp (tx bs) e to))) V := by
        unfold g72
        rw [RV.1.2]
        simp only [bS]
        rw [RV.2.2.1.k (by omega) (by omega)]
        simp only [bS]
        rw [RV.1.2]
        simp only [bS]
        generalize skp (tx bs) e to = p at k1 ⊢
        rw [show (32 : Int32) = nI 32 from rfl, RV.2.2.1.p (by decide) (show p ≤ to by omega) (by omega)]
        simp only [bS]
        have z1 := sc_ge (fun j => tx bs j == 32) (to - p) p
        generalize sc (fun j => tx bs j == 32) p (to - p) = z at z1 ⊢
        rw [RV.1.2]
        simp only [bS]
        by_cases c2 : so = 2
        · rw [if_pos (show nI so = 2 by rw [c2]; rfl), if_pos c2, g107_s RV.2.2.1 z1.1 (by omega)]
          simp only [bS]
        · rw [if_neg (show ¬ nI so = (2 : Int32) from nI_ne c2 (by omega) (by decide)), if_neg c2]
          by_cases c6 : so = 6
          · rw [if_pos (show nI so = 6 by rw [c6]; rfl), if_pos c6, g110_s RV.2.2.1 z1.1 (by omega)]
            simp only [bS]
          · rw [if_neg (show ¬ nI so = (6 : Int32) from nI_ne c6 (by omega) (by decide)), if_neg c6, g109_s RV.2.2.1 z1.1 (by omega)]
            simp only [bS]
      rw [e72]
      generalize skp (tx bs) e to = p at k1 ⊢
      have z1 := sc_ge (fun j => tx bs j == 32) (to - p) p
      generalize sc (fun j => tx bs j == 32) p (to - p) = z at z1 ⊢
      have hn2 : so = 2 → (if so = 2 then nmOK (tx bs) p (z - p) else if so = 6 then nuOK (tx bs) p (z - p) else rfOK (tx bs) p (z - p)) = nmOK (tx bs) p (z - p) := fun h9 => if_pos h9
      generalize (if so = 2 then nmOK (tx bs) p (z - p) else if so = 6 then nuOK (tx bs) p (z - p) else rfOK (tx bs) p (z - p)) = ok at hn2 ⊢
      unfold gj72_81
      simp only [bZ_0]
      cases ok with
      | false =>
        rw [if_pos (Eq.refl false), if_pos (Eq.refl false)]
        unfold gj72_93
        obtain ⟨U, u1, u2, u3, u4, u5⟩ := g62_s v2 (c := 2) (p := p) (by decide) (by omega)
        rw [show (2 : Int32) = nI 2 from rfl, u1]
        simp only [bS]
        have EU := EV.tr (u5 d)
        have TU := cRd_eq v3 (by rw [opn_len]; omega) h120 hd (u3.mono fun a ha => ha.1)
        obtain ⟨W, w1, w2⟩ := g71_b (e := e) ht hE R h24 h120 (show so ≤ 6 by omega) (Nat.le_refl to) EU.w (N.kp hd EU) u2 TU (by rw [u4]; exact v4) (fun q hq x h1 h2 => by omega)
        refine ⟨W, w1, ?_⟩
        cases G with
        | none => exact w2
        | some q =>
          have := hG q rfl
          rw [cmb_k (fun x hx => by cases hx; dsimp only; omega)] at w2
          exact w2
      | true =>
        rw [if_neg (show ¬ true = false by decide), if_neg (show ¬ true = false by decide), v4, if_neg (by simp)]
        -- the name is written, what is behind it
        have e130 : ∀ (U : xC) (G2 : Option (Nat × Nat)), rdW d C U → nS U → cRd U d (opn r so fi 0 0 0 false) → cR U 5 3 = some (d + 4 + r.1.length) → fS U G2 → (∀ q, G2 = some q → q.2 = fi) → ∃ C', ((gj72_130 5 (nI so) (nI e) (nI to) (nI p) (nI z) (bZ true) U).bind fun r_5 => gj71_93 5 (nI fi) (nI to) (nI e) (nI so) r_5.1 r_5.2) = some C' ∧ clO C C' d (orF r G2 (if so = 5 ∨ so = 6 then (opn r so fi 0 p z false, if skp (tx bs) z to < to then some (2, skp (tx bs) z to) else none) else rdPcs (tx bs) to z (opn r so fi 0 p z false))) := fun U G2 EU NU TU k3 FU hG2 => by
          unfold gj72_130
          rw [k3]
          simp only [bS]
          rw [uI_r, k3]
          simp only [bS]
          have E2 : rdE d U (uI (uI U (d + 4 + r.1.length) 6 (nI p)) (d + 4 + r.1.length) 7 (nI z)) := (rdE_bk hd (by omega)).tr (rdE_bk hd (by omega))
          exact g71_b (e := e) ht hE R h24 h120 (show so ≤ 6 by omega) (show z ≤ to by omega) (EU.tr E2.w) (NU.kp hd E2) (FU.kp (by rw [uI_n (by omega), uI_n (by omega)]) (by rw [uI_n (by omega), uI_n (by omega)])) (ob_nm TU h24 h120) (by rw [uI_r, uI_r]; exact k3) (fun q hq x h1 h2 => by have := hG2 q hq; omega)
        by_cases c2 : so = 2
        · have nm := nmOK_NB ((hn2 c2).symm)
          rw [if_pos (show nI so = 2 by rw [c2]; rfl)]
          obtain ⟨U, u1, u2, u3, u4⟩ := g73_s RV NV v3 (by rw [opn_len]; omega) h120 (fun b hb => by
            have hb : b ∈ r.1 ++ [(so, fi, 0, r.2.length, 0, 0, 0, false)] := hb
            rw [List.mem_append, List.mem_singleton] at hb
            rcases hb with hb | hb
            · exact ⟨(w.2.2.1 b hb).1, (w.2.2.1 b hb).2.2.2.2.1, (w.2.2.1 b hb).2.2.2.2.2.1⟩
            · subst hb
              exact ⟨by show so ≤ 7; omega, Nat.le_refl _, Nat.zero_le _⟩) z1.1 (show z ≤ bs.length by omega) (by omega)
          rw [u1]
          have ea : ((opn r so fi 0 0 0 false).1.any fun b => decide (bSo b = 2) && decide (cut bs (bNf b) (bNt b) = cut bs p z)) = (r.1.any fun b => decide (bSo b = 2) && decide (cut bs (bNf b) (bNt b) = cut bs p z)) := by
            show ((r.1 ++ [_]).any _) = _
            rw [List.any_append]
            have : decide (cut bs (bNf (so, fi, 0, r.2.length, 0, 0, 0, false)) (bNt (so, fi, 0, r.2.length, 0, 0, 0, false)) = cut bs p z) = false := decide_eq_false fun h9 => by
              have h9 : cut bs 0 0 = cut bs p z := h9
              have h8 := congrArg List.length h9
              rw [cut_len (Nat.zero_le _), cut_len (by omega)] at h8
              omega
            rw [List.any_cons, List.any_nil, this]
            simp
          rw [ea]
          simp only [bS, bZ_0]
          have EU : rdW d V U := ⟨u2.mono fun a ha => ⟨ha.2.1, ha.2.2.1⟩, fun k => (u2 d (by omega)).2.1 k, fun k _ => (u2 5 (by decide)).2.1 k, (u2 5 (by decide)).1 4, u3⟩
          have TU : cRd U d (opn r so fi 0 0 0 false) := v3.kp u2 (by rw [opn_len]; omega) h120 fun i hi => by omega
          have FU : fS U G := v2.kp ((u2 5 (by decide)).1 5) ((u2 5 (by decide)).1 6)
          have k3 : cR U 5 3 = some (d + 4 + r.1.length) := by rw [(u2 5 (by decide)).2.1]; exact v4
          by_cases c6 : r.1.any (fun b => decide (bSo b = 2) && decide (cut bs (bNf b) (bNt b) = cut bs p z)) = true
          · rw [if_neg (by rw [c6]; decide), if_pos ⟨c2, c6⟩, k3]
            simp only [bS]
            have b3 := (last_c TU (by rw [opn_len]; omega)).2.2.1
            rw [opn_len, Nat.add_sub_cancel, opn_last] at b3
            have b3 : cI U (d + 4 + r.1.length) 2 = nI fi := b3
            rw [b3]
            obtain ⟨X, x1, x2, x3, x4, x5⟩ := g62_s FU (c := 5) (p := fi) (by decide) (by omega)
            rw [show (5 : Int32) = nI 5 from rfl, x1]
            simp only [bS]
            obtain ⟨W, w1, w2⟩ := e130 X _ ((EV.w.tr EU).tr (x5 d).w) (u4.kp hd (x5 d)) (cRd_eq TU (by rw [opn_len]; omega) h120 hd (x3.mono fun a ha => ha.1)) (by rw [x4]; exact k3) x2 (fun q hq => by
              cases G with
              | none => cases hq; rfl
              | some g =>
                have := hG g rfl
                rw [cmb_k (fun x hx => by cases hx; dsimp only; omega)] at hq
                cases hq
                exact this.1)
            refine ⟨W, w1, ?_⟩
            cases G with
            | none => exact w2
            | some g =>
              have := hG g rfl
              rw [cmb_k (fun x hx => by cases hx; dsimp only; omega)] at w2
              exact w2
          · rw [if_pos (Bool.eq_false_iff.mpr c6), if_neg fun h9 => c6 h9.2]
            exact e130 U G (EV.w.tr EU) u4 TU k3 FU (fun q hq => (hG q hq).1)
        · rw [if_neg (show ¬ nI so = (2 : Int32) from nI_ne c2 (by omega) (by decide)), if_neg (show ¬ (so = 2 ∧ _) from fun h9 => c2 h9.1)]
          exact e130 V G EV.w NV v3 v4 v2 (fun q hq => (hG q hq).1)
  -- another one of its sort
  have sw : ∀ X Y : Option xC, (if nI so = 3 then X else if nI so = 6 then X else Y) = if so = 3 ∨ so = 6 then X else Y := fun X Y => by
    by_cases h3 : so = 3
    · rw [if_pos (show nI so = 3 by rw [h3]; rfl), if_pos (Or.inl h3)]
    · rw [if_neg (show ¬ _ = (3 : Int32) from nI_ne h3 (by omega) (by decide))]
      by_cases h6 : so = 6
      · rw [if_pos (show nI so = 6 by rw [h6]; rfl), if_pos (Or.inr h6)]
      · rw [if_neg (show ¬ _ = (6 : Int32) from nI_ne h6 (by omega) (by decide)), if_neg (by omega)]
  rw [sw]
  by_cases h36 : so = 3 ∨ so = 6
  · rw [if_pos h36]
    unfold gj71_50
    rw [a1]
    simp only [bS]
    rw [g9_s b T (by omega) hB (by omega)]
    simp only [bS]
    cases h7 : ix9 r.1 so r.1.length 0 with
    | none =>
      rw [if_pos (show Option.map (fun k => d + 4 + k) none = none from rfl), if_neg (show ¬ ((so = 3 ∨ so = 6) ∧ _) from fun h9 => by have := h9.2; rw [ix9_a.mp h7] at this; cases this)]
      exact e68 C none (Or.inl rfl) rdE.rfl' T hF
    | some k =>
      obtain ⟨U, u1, u2, u3, u4, u5⟩ := g62_s hF (c := 5) (p := fi) (by decide) (by omega)
      rw [if_neg (by simp), show (5 : Int32) = nI 5 from rfl, u1]
      simp only [bS]
      rw [if_pos (show (so = 3 ∨ so = 6) ∧ (r.1.any fun b => bSo b == so) = true from ⟨h36, by
        cases h9 : (r.1.any fun b => bSo b == so) with
        | true => rfl
        | false => rw [ix9_a.mpr h9] at h7; cases h7⟩)]
      exact e68 U (some (5, fi)) (Or.inr rfl) (u5 d) (cRd_eq T (by omega) h120 hd (u3.mono fun a ha => ha.1)) u2
  · rw [if_neg h36, if_neg (show ¬ ((so = 3 ∨ so = 6) ∧ _) from fun h9 => h36 h9.1)]
    exact e68 C none (Or.inl rfl) rdE.rfl' T hF
end PCTT
