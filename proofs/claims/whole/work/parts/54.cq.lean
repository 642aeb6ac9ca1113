section PCQ
theorem x_it {α σ : Type} {c : Prop} {i : Decidable c} {A B : Option (α × σ)} {a b : α} {s : σ} (h1 : c → A = some (a, s)) (h2 : ¬ c → B = some (b, s)) : (@ite _ c i A B) = some (@ite _ c i a b, s) := by
  by_cases h : c
  · rw [if_pos h, if_pos h]
    exact h1 h
  · rw [if_neg h, if_neg h]
    exact h2 h
variable {C : xC} {σ : St} {g : Gh}
theorem c_fault (R : CR C σ g) (a : Nat → Int32) : g119 0 C = some ((stp σ 6 a).1, C) := by
  obtain ⟨t, _, _, f, _⟩ := R
  unfold g119
  rw [t.2.2.1]
  simp only [Option.bind_some, f]
  rfl
theorem g14_s {ea : Nat → Nat} {pa : Nat → Nat → Nat} {ca : Nat → Nat} {es : List En} (H : cE C ea pa ca es) {e : Nat} (he : e < es.length) : g14 (ea e) C = some (if (eCm (gE es e)).isSome = true then some (ca e) else none, C) := by
  obtain ⟨_, _, _, _, d, _, h⟩ := H.2.2 e he
  unfold g14
  simp only [d, bZ_0]
  cases hc : eCm (gE es e) with
  | none => rfl
  | some c =>
    rw [(h c hc).1]
    rfl
theorem g134_s {ea : Nat → Nat} {pa : Nat → Nat → Nat} {ca : Nat → Nat} {es : List En} (H : cE C ea pa ca es) {o : Option Nat} (ho : ∀ e, o = some e → e < es.length) : g134 (o.map ea) C = some (oI o, C) := by
  unfold g134
  cases o with
  | none => rfl
  | some e =>
    rw [Option.map_some, if_neg (by simp)]
    simp only [Option.bind_some, (H.2.2 e (ho e rfl)).2.1.1]
    rfl
theorem cE_cm {ea : Nat → Nat} {pa : Nat → Nat → Nat} {ca : Nat → Nat} {es : List En} (H : cE C ea pa ca es) (w : wE es) {e : Nat} (he : e < es.length) (hc : (eCm (gE es e)).isSome = true) : cR C (ca e) 5 = some (ea e) ∧ cCm C (ca e) (gC es e) ∧ cSh C (ca e) ∧ wC (gC es e) := by
  obtain ⟨_, _, _, _, _, f, h⟩ := H.2.2 e he
  obtain ⟨c, hc2⟩ := Option.isSome_iff_exists.mp hc
  have e1 : gC es e = c := by unfold gC; rw [hc2]; rfl
  obtain ⟨h1, h2, h3⟩ := h c hc2
  rw [e1]
  refine ⟨h2, h3, ?_, (w.2 e he).2.2.2.2.2.2.2.2 c hc2⟩
  rcases f with f | f
  · rw [f.1] at h1
    cases h1
  · exact f.2
theorem gC_none {es : List En} {e : Nat} (h : (eCm (gE es e)).isSome = false) : gC es e = ([], [], []) := by
  unfold gC
  cases hc : eCm (gE es e) with
  | none => rfl
  | some c => rw [hc] at h; cases h
theorem c_told (R : CR C σ g) (w : wSt σ) (x y : Int32) : g121 0 x y C = some (sTold σ x y, C) := by
  obtain ⟨t, _, H, _⟩ := R
  have wE1 := w.2.1
  unfold g121 sTold
  simp only [t.2.1, Option.bind_some]
  rw [g83_s H wE1]
  simp only [Option.bind_some]
  cases he : eIx σ.2.1 x with
  | none => rfl
  | some e =>
    obtain ⟨h1, rfl⟩ := eIx_lt he
    obtain ⟨_, ⟨_, _⟩, ⟨b1, b2, b3⟩, ⟨_, _, c3, _⟩, _⟩ := H.2.2 e h1
    have wo := wE1.2 e h1
    have q1 := g134_s H (o := eOw (gE σ.2.1 e)) fun o ho => by have := (wo.1 o ho).1; omega
    have q2 := g134_s H (o := ePa (gE σ.2.1 e)) fun o ho => by have := (wo.2.1 o ho).1; omega
    have q3 := g134_s H (o := abv σ.2.1 e) fun o ho => (abv_lt wE1 h1 ho).1
    have q4 := g91_o H wE1 (o := some e) fun k hk => by cases hk; exact h1
    have q5 := g134_s H (o := cnt σ.2.1 40 (some e)) fun o ho => (cnt_lt wE1 40 _ o (fun k hk => by cases hk; exact h1) ho).1
    rw [Option.map_some] at q4
    simp only [Option.map_some, Option.bind_some, g14_s H h1, b1, b2, b3, c3, q1, q2, q3, q4, q5, g90_s H wE1 h1, t.2.1, bZ_0, gj121_101, gj121_140, gj121_155]
    rw [if_neg (by simp)]
    refine x_it (fun _ => rfl) fun _ => x_it (fun _ => rfl) fun _ => x_it (fun _ => rfl) fun _ => x_it (fun _ => ?_) fun _ => x_it (fun _ => rfl) fun _ => x_it (fun _ => rfl) fun _ => x_it (fun _ => ?_) fun _ => x_it (fun _ => ?_) fun _ => rfl
    · cases eGv (gE σ.2.1 e) <;> rfl
    all_goals
      by_cases hc : (eCm (gE σ.2.1 e)).isSome = true
      · obtain ⟨_, m2, _⟩ := cE_cm H wE1 h1 hc
        simp only [hc, if_true, m2.2.1.1, m2.2.2.1, Option.bind_some]
        rw [if_neg (by simp)]
      · have e0 := gC_none (Bool.eq_false_iff.mpr hc)
        simp only [hc, e0]
        rfl
theorem g133_s {ea : Nat → Nat} {pa : Nat → Nat → Nat} {ca : Nat → Nat} {es : List En} (H : cE C ea pa ca es) (w : wE es) (t : cR C 0 1 = some 3) (x : Int32) : g133 0 x C = some (match eIx es x with
    | some e => if (eCm (gE es e)).isSome = true then some (ca e) else none
    | none => none, C) := by
  unfold g133
  simp only [t, Option.bind_some]
  rw [g83_s H w]
  simp only [Option.bind_some]
  cases he : eIx es x with
  | none => rfl
  | some e =>
    simp only [Option.map_some, Option.bind_some, g14_s H (eIx_lt he).1]
    rw [if_neg (by simp)]
    rfl
theorem g5_s {c : Nat} {r : Rd} (T : cRd C c r) (h : cSh C c) (h1 : r.1.length ≤ 25) (x : Int32) : g5 c x C = some (if x < 0 then none else if x.toNatClampNeg < r.1.length then some (c + 4 + x.toNatClampNeg) else none, C) := by
  unfold g5
  by_cases h0 : x < 0
  · rw [if_pos h0, if_pos h0]
    rfl
  · obtain ⟨j, hj, rfl⟩ := nI_of h0
    rw [if_neg h0, if_neg h0, T.1.1, nI_clamp hj]
    simp (disch := omega) only [nI_ltI, h.2.2.2.1.1, Option.bind_some]
    by_cases h2 : j < r.1.length
    · rw [if_pos h2, if_pos h2, cLR_n (n := 25) (by omega) h.2.2.2.1.2.1 (by decide), h.2.2.2.1.2.2 j (by omega)]
      rfl
    · rw [if_neg h2, if_neg h2]
      rfl
theorem g6_s {c : Nat} {r : Rd} (T : cRd C c r) (h : cSh C c) (h1 : r.2.length ≤ 120) (x : Int32) : g6 c x C = some (if x < 0 then none else if x.toNatClampNeg < r.2.length then some (c + 30 + x.toNatClampNeg) else none, C) := by
  unfold g6
  by_cases h0 : x < 0
  · rw [if_pos h0, if_pos h0]
    rfl
  · obtain ⟨j, hj, rfl⟩ := nI_of h0
    rw [if_neg h0, if_neg h0, T.2.1, nI_clamp hj]
    simp (disch := omega) only [nI_ltI, h.2.2.2.2.1, Option.bind_some]
    by_cases h2 : j < r.2.length
    · rw [if_pos h2, if_pos h2, cLR_n (n := 120) (by omega) h.2.2.2.2.2.1 (by decide), h.2.2.2.2.2.2 j (by omega)]
      rfl
    · rw [if_neg h2, if_neg h2]
      rfl
theorem c_block (R : CR C σ g) (w : wSt σ) (x i y : Int32) : g122 0 x i y C = some (sBlk σ x i y, C) := by
  obtain ⟨t, _, H, _⟩ := R
  have wE1 := w.2.1
  have q0 := g133_s H wE1 t.2.1 x
  unfold g122 sBlk
  cases he : eIx σ.2.1 x with
  | none =>
    rw [he] at q0
    rw [q0]
    rfl
  | some e =>
    obtain ⟨h1, rfl⟩ := eIx_lt he
    rw [he] at q0
    dsimp only at q0 ⊢
    by_cases hc : (eCm (gE σ.2.1 e)).isSome = true
    · obtain ⟨_, m2, m3, m4⟩ := cE_cm H wE1 h1 hc
      rw [if_pos hc] at q0
      rw [q0]
      simp only [Option.bind_some]
      rw [if_neg (by simp)]
      have l24 := m4.2.1
      rw [g5_s m2.2 m3 (by omega)]
      simp only [Option.bind_some]
      by_cases hi : i < 0
      · rw [if_pos hi, if_pos hi]
        rfl
      · obtain ⟨j, hj, rfl⟩ := nI_of hi
        rw [if_neg hi, if_neg hi, nI_clamp hj]
        by_cases hj2 : j < (gC σ.2.1 e).2.1.length
        · rw [if_pos hj2, getD_in (d := bkD) hj2]
          obtain ⟨q0, q1, q2, q3, q4, q5, _⟩ := m2.2.1.2 j hj2
          unfold gj122_22
          rw [if_neg (by simp)]
          simp only [Option.bind_some, q1, q2, q3, q5]
          exact x_it (fun _ => rfl) fun _ => x_it (fun _ => rfl) fun _ => x_it (fun _ => rfl) fun _ => x_it (fun _ => rfl) fun _ => rfl
        · rw [if_neg hj2, List.getElem?_eq_none (by omega)]
          rfl
    · rw [if_neg hc] at q0
      rw [q0, gC_none (Bool.eq_false_iff.mpr hc)]
      simp [gj122_22]
theorem c_piece (R : CR C σ g) (w : wSt σ) (x i y : Int32) : g123 0 x i y C = some (sPce σ x i y, C) := by
  obtain ⟨t, _, H, _⟩ := R
  have wE1 := w.2.1
  have q0 := g133_s H wE1 t.2.1 x
  unfold g123 sPce
  cases he : eIx σ.2.1 x with
  | none =>
    rw [he] at q0
    rw [q0]
    rfl
  | some e =>
    obtain ⟨h1, rfl⟩ := eIx_lt he
    rw [he] at q0
    dsimp only at q0 ⊢
    by_cases hc : (eCm (gE σ.2.1 e)).isSome = true
    · obtain ⟨m1, m2, m3, m4⟩ := cE_cm H wE1 h1 hc
      rw [if_pos hc] at q0
      rw [q0]
      simp only [Option.bind_some]
      rw [if_neg (by simp)]
      have l24 := m4.2.2.1
      rw [g6_s m2.2 m3 (by omega)]
      simp only [Option.bind_some]
      by_cases hi : i < 0
      · rw [if_pos hi, if_pos hi]
        rfl
      · obtain ⟨j, hj, rfl⟩ := nI_of hi
        rw [if_neg hi, if_neg hi, nI_clamp hj]
        by_cases hj2 : j < (gC σ.2.1 e).2.2.length
        · rw [if_pos hj2, getD_in (d := pcD) hj2]
          have q := m2.2.2.2 j hj2
          have v : wP (tx (gC σ.2.1 e).1) (gC σ.2.1 e).1.length ((gC σ.2.1 e).2.2.getD j pcD) := m4.2.2.2.2.1 _ (by simp [List.getD_eq_getElem?_getD, hj2])
          generalize (gC σ.2.1 e).2.2.getD j pcD = p at q v
          obtain ⟨q0, q1, q2, q3, q4, q5⟩ := q
          obtain ⟨v1, v2, v3, v4, v5, v6, v7⟩ := v
          have tl := m4.1.1
          unfold gj123_22
          rw [if_neg (by simp)]
          simp only [Option.bind_some, q0, q1, q2, q3, q5, bZ_0, gj123_105, gj123_149, pk_sub v3]
          by_cases y0 : y = 0
          · subst y0; rfl
          · by_cases y1 : y = 1
            · subst y1; rfl
            · by_cases y2 : y = 2
              · subst y2; rfl
              · by_cases y3 : y = 3
                · subst y3
                  cases hg : pGl p <;> simp
                · by_cases y4 : y = 4
                  · subst y4
                    rw [lt_2]
                    simp (disch := omega) only [nI_eq]
                    by_cases h2 : pSo p = 2
                    · have q6 := g93_s H wE1 m2.1 v6 (by decide) (v7 h2) v5 h1
                      have q7 := g134_s H (o := lead σ.2.1 e (cut (gC σ.2.1 e).1 (pNf p) (pNt p))) fun o ho => by
                        unfold lead at ho
                        dsimp only at ho
                        split at ho
                        · exact (mF_lt wE1 _ _ _ _ ho).1
                        · split at ho
                          · exact (fE_lt ho).1
                          · exact (mF_lt wE1 _ _ _ _ ho).1
                      simp only [(q4 h2).1, (q4 h2).2, m3.1, m1, t.2.1, Option.bind_some, q6, q7, h2, if_true]
                      rfl
                    · simp only [h2, if_false]
                      rfl
                  · simp [y0, y1, y2, y3, y4]
        · rw [if_neg hj2, List.getElem?_eq_none (by omega)]
          rfl
    · rw [if_neg hc] at q0
      rw [q0, gC_none (Bool.eq_false_iff.mpr hc)]
      simp [gj123_22]
theorem c_about (R : CR C σ g) (x : Int32) : g126 0 x C = some (sAb σ x, C) := by
  obtain ⟨t, _, _, _, ⟨p, ps, _⟩, _⟩ := R
  unfold g126 sAb
  simp only [t.2.2.2.2.2.2.1, Option.bind_some, ps.1, p.1.2.1, p.2.1.1, p.2.2.1.1, p.2.2.2.1, p.2.2.2.2]
  repeat' split
  all_goals rfl
theorem c_at (R : CR C σ g) (w : wSt σ) (x : Int32) : g127 0 x C = some (sAt σ x, C) := by
  obtain ⟨t, _, _, _, ⟨p, ps, _⟩, _⟩ := R
  have w1 := w.2.2.2.1.1.1
  unfold g127 sAt
  simp only [t.2.2.2.2.2.2.1, Option.bind_some, ps.1]
  by_cases hi : x < 0
  · rw [if_pos hi]
    unfold g96
    rw [if_pos hi]
    rfl
  · obtain ⟨j, hj, rfl⟩ := nI_of hi
    rw [if_neg hi, p.1.s hj, nI_clamp hj]
    simp only [Option.bind_some]
    by_cases hj2 : j < σ.2.2.2.1.1.length
    · have e1 : tx σ.2.2.2.1.1 j = σ.2.2.2.1.1.getD j 0 := by simp [tx, List.getD_eq_getElem?_getD, hj2]
      have hb : σ.2.2.2.1.1.getD j 0 < 256 := by
        have := (p.1.2.2.2.2.2 j hj2).1
        rw [show σ.2.2.2.1.1.getD j 999 = tx σ.2.2.2.1.1 j from rfl, e1] at this
        exact this
      rw [e1, bI_lt hb]
      congr 2
      unfold xmax
      by_cases h0 : (0 : Int32) < nI (σ.2.2.2.1.1.getD j 0)
      · rw [if_pos h0]
      · rw [if_neg h0]
        have := Nat.not_lt.mp fun h9 => h0 (nI_lt (a := 0) h9 (by omega))
        rw [show σ.2.2.2.1.1.getD j 0 = 0 by omega]
        rfl
    · rw [tx_out (by omega), List.getD_eq_getElem?_getD, List.getElem?_eq_none (by omega)]
      rfl
theorem c_line (R : CR C σ g) (w : wSt σ) (x : Int32) : g128 0 x C = some (sLin σ x, C) := by
  obtain ⟨t, _, _, _, ⟨p, ps, _⟩, _⟩ := R
  have w1 := w.2.2.2.1.1.2.2.1
  unfold g128 sLin
  by_cases hi : x < 0
  · rw [if_pos hi, if_pos hi]
    rfl
  · obtain ⟨j, hj, rfl⟩ := nI_of hi
    rw [if_neg hi, if_neg hi, nI_clamp hj]
    simp (disch := omega) only [t.2.2.2.2.2.2.1, Option.bind_some, p.2.1.1, nI_ltI, ps.2.1]
    by_cases hj2 : j < σ.2.2.2.1.2.1.length
    · rw [if_pos hj2, cLd_n (n := 4000) (by omega) ps.2.2.1 (by decide), p.2.1.2 j hj2, getD_in (d := 0) hj2]
      rfl
    · rw [if_neg hj2, List.getElem?_eq_none (by omega)]
      rfl
theorem c_note (R : CR C σ g) (w : wSt σ) (x y : Int32) : g131 0 x y C = some (sNot σ x y, C) := by
  obtain ⟨t, _, _, _, _, n, _⟩ := R
  have w1 := w.2.2.2.2.1
  unfold g131 sNot
  by_cases hi : x < 0
  · rw [if_pos hi, if_pos hi]
    rfl
  · obtain ⟨j, hj, rfl⟩ := nI_of hi
    rw [if_neg hi, if_neg hi, nI_clamp hj]
    simp (disch := omega) only [t.2.2.2.2.1, Option.bind_some, n.2.2.2.2.1, nI_ltI, n.1, n.2.1]
    by_cases hj2 : j < σ.2.2.2.2.length
    · rw [if_pos hj2, cLd_n (n := 216) (by omega) n.2.2.1 (by decide), cLd_n (n := 216) (by omega) n.2.2.2.1 (by decide), (n.2.2.2.2.2 j hj2).1, (n.2.2.2.2.2 j hj2).2, getD_in (d := (0, 0)) hj2]
      simp only [Option.bind_some]
      repeat' split
      all_goals rfl
    · rw [if_neg hj2, List.getElem?_eq_none (by omega)]
      rfl
end PCQ
