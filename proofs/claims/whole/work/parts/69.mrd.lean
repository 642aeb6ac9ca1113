section PMRD
variable {S : mS} {N to : Nat} {r : Rd} {bs : List Nat}
/-- a tag is opened -/
theorem g187_o (A : aF S 12 24000 (tx bs) bs.length) (hl : S.1 37 = nI to) (ht : to ≤ bs.length) (hE : tx bs to = 10 ∨ 256 ≤ tx bs to) (M : mRd S 40 r) (h24 : r.1.length < 24) (h120 : r.2.length ≤ 120) (h31 : S.1 31 = 0) {fi so p z : Nat} (hso : 2 ≤ so ∧ so ≤ 6) (hpz : p ≤ z) (hz : z ≤ to) : ∃ S', gj187_136 (nI fi) (nI z) (nI so) (nI p) S = some S' ∧ rF lnJ S S' ∧ S'.1 37 = nI to ∧ rdQ S' (if so = 5 ∨ so = 6 then (opn r so fi 0 p z false, if skp (tx bs) z to < to then some (2, skp (tx bs) z to) else none) else rdPcs (tx bs) to z (opn r so fi 0 p z false)) := by
  have hN := A.n600
  have M1 : mRd (sPut S 35 1) 40 r := M
  obtain ⟨T, t1, t2, t3, t4, t5⟩ := g173_s M1 h24 so 0 fi
  have t6 : g174 T = some (nI (960 + r.1.length), T) := by
    have := g174_s (S := T) (r := opn r so fi 0 0 0 false) (by rw [opn_len]; exact t5) (by rw [opn_len]; omega)
    rw [opn_len] at this
    exact this
  have M2 := mRd_o21 (a := p) (z := z) t2
  have t7 : g174 (sSet T 21 (960 + r.1.length) (nI p)) = some (nI (960 + r.1.length), sSet T 21 (960 + r.1.length) (nI p)) := by
    have := g174_s (S := sSet T 21 (960 + r.1.length) (nI p)) (r := opn r so fi 0 0 0 false) (by rw [opn_len, sS_ne (by omega)]; exact t5) (by rw [opn_len]; omega)
    rw [opn_len] at this
    exact this
  unfold gj187_136
  simp only [bS]
  rw [show (0 : Int32) = nI 0 from rfl, t1]
  simp only [bS]
  rw [t6]
  simp only [bS]
  rw [st_21 (by omega)]
  simp only [bS]
  rw [t7]
  simp only [bS]
  rw [pk_sub hpz, st_22 (by omega)]
  simp only [bS]
  have F1 : rF lnJ S (sPut S 35 1) := rF.put (by decide)
  have F2 : rF lnJ S (sSet (sSet T 21 (960 + r.1.length) (nI p)) 22 (960 + r.1.length) (nI (z - p))) := (F1.tr (t4.mono (by decide))).tr ((rF.set (by decide) (by simp [uE])).tr (rF.set (by decide) (by simp [uE])))
  have u31 : T.1 31 = 0 := by rw [t4.1.1 31 (by decide)]; exact h31
  have u37 : T.1 37 = nI to := by rw [t4.1.1 37 (by decide)]; exact hl
  have u35 : T.1 35 = bZ true := by rw [t4.1.1 35 (by decide)]; rfl
  have v31 : (sSet (sSet T 21 (960 + r.1.length) (nI p)) 22 (960 + r.1.length) (nI (z - p))).1 31 = 0 := u31
  have v37 : (sSet (sSet T 21 (960 + r.1.length) (nI p)) 22 (960 + r.1.length) (nI (z - p))).1 37 = nI to := u37
  have v35 : (sSet (sSet T 21 (960 + r.1.length) (nI p)) 22 (960 + r.1.length) (nI (z - p))).1 35 = bZ true := u35
  have v38 : (sSet (sSet T 21 (960 + r.1.length) (nI p)) 22 (960 + r.1.length) (nI (z - p))).1 38 = -1 := t3
  generalize sSet (sSet T 21 (960 + r.1.length) (nI p)) 22 (960 + r.1.length) (nI (z - p)) = V at M2 F2 v31 v37 v35 v38 ⊢
  have Av := F2.aF A
  have tg : hasTg (opn r so fi 0 p z false) = true := by
    rw [hasTg_opn]
    unfold isTg
    rw [decide_eq_true hso.1, decide_eq_true hso.2]
    rfl
  have e183 : ∃ S', gj187_183 (nI fi) (nI z) (nI so) (nI p) V = some S' ∧ rF lnJ S S' ∧ S'.1 37 = nI to ∧ rdQ S' (opn r so fi 0 p z false, if skp (tx bs) z to < to then some (2, skp (tx bs) z to) else none) := by
    have k := skp_ge (f := tx bs) hz
    unfold gj187_183
    rw [g169_s Av v37 ht hz]
    simp only [bS]
    rw [v37]
    by_cases h : skp (tx bs) z to < to
    · rw [if_neg (nI_ge h (by omega)), if_pos h, show (2 : Int32) = nI 2 from rfl, g166_s _ _ v31]
      exact ⟨_, rfl, F2.tr ((rF.put (by decide)).tr (rF.put (by decide))), v37, rdQ_f⟩
    · rw [if_pos (nI_le (by omega) (by omega)), if_neg h]
      exact ⟨V, rfl, F2, v37, M2, v31, by rw [v35, tg], v38⟩
  by_cases h5 : so = 5
  · rw [if_pos (show nI so = 5 by rw [h5]; rfl), if_pos (Or.inl h5)]
    exact e183
  · rw [if_neg (show ¬ _ = (5 : Int32) from nI_ne h5 (by omega) (by decide))]
    by_cases h6 : so = 6
    · rw [if_pos (show nI so = 6 by rw [h6]; rfl), if_pos (Or.inr h6)]
      exact e183
    · rw [if_neg (show ¬ _ = (6 : Int32) from nI_ne h6 (by omega) (by decide)), if_neg (by omega)]
      obtain ⟨U, u1, u2, u3, u4⟩ := g175_q Av v37 ht hE M2 (by rw [opn_len]; omega) (by rw [opn_len]; omega) h120 v31 (by rw [v35, tg]) v38 hz
      rw [u1]
      exact ⟨U, rfl, F2.tr u2, u3, u4⟩
/-- tag -/
theorem g187_s (A : aF S 12 24000 (tx bs) bs.length) (hl : S.1 37 = nI to) (ht : to ≤ bs.length) (hE : tx bs to = 10 ∨ 256 ≤ tx bs to) (M : mRd S 40 r) {p0 : Nat} (w : wRd (tx bs) bs.length p0 r) (h31 : S.1 31 = 0) {fi : Nat} (hfi : fi < to) (h64 : tx bs fi = 64) : ∃ S', g187 (nI fi) S = some S' ∧ rF lnJ S S' ∧ S'.1 37 = nI to ∧ rdQ S' (rdTag bs fi to r) := by
  have hN := A.n600
  obtain ⟨w1, w2, w3, _⟩ := w
  have hB : ∀ b ∈ r.1, bSo b ≤ 7 ∧ bDe b ≤ 2 := fun b hb => ⟨(w3 b hb).1, (w3 b hb).2.2.1⟩
  have bad : ∀ c q : Nat, ∃ S', ((g166 (nI c) (nI q) S).bind fun S_7 => some S_7) = some S' ∧ rF lnJ S S' ∧ S'.1 37 = nI to ∧ rdQ S' (r, some (c, q)) := fun c q => by
    rw [g166_s _ _ h31]
    exact ⟨_, rfl, (rF.put (by decide)).tr (rF.put (by decide)), hl, rdQ_f⟩
  unfold g187 rdTag
  rw [g170_s A hl ht (by omega), sc_s (by simp [h64]) hfi]
  dsimp only
  have e1 := sc_ge (fun j => tx bs j == 32) (to - (fi + 1)) (fi + 1)
  generalize sc (fun j => tx bs j == 32) (fi + 1) (to - (fi + 1)) = e at e1 ⊢
  simp only [bS]
  rw [g183_s A hl ht hE e1.1 (by omega)]
  simp only [bS]
  have t1 := tgSo_le (f := tx bs) (i := fi + 1) (e := e)
  generalize tgSo (tx bs) (fi + 1) e = so at t1 ⊢
  by_cases c0 : so = 0
  · rw [if_pos c0, if_pos c0, if_pos (Eq.refl _)]
    exact bad 2 fi
  rw [if_neg c0, if_neg c0, if_neg (nI_nm (by omega)), lt_40, ld_14 (by decide), M.1.1]
  simp only [bS]
  by_cases c1 : r.1.length = 24
  · rw [if_pos c1, if_pos (show nI r.1.length = 24 by rw [c1]; rfl)]
    exact bad 4 fi
  rw [if_neg c1, if_neg (show ¬ _ = (24 : Int32) from nI_ne c1 (by omega) (by decide))]
  have l24 : r.1.length < 24 := by omega
  -- behind the look for another one
  have e70 : ∃ S', gj187_70 (nI fi) (nI e) (nI so) S = some S' ∧ rF lnJ S S' ∧ S'.1 37 = nI to ∧ rdQ S' (if so = 3 then rdPcs (tx bs) to e (opn r 3 fi 0 e e false)
      else if (if so = 2 then nmOK (tx bs) (skp (tx bs) e to) (sc (fun j => tx bs j == 32) (skp (tx bs) e to) (to - skp (tx bs) e to) - skp (tx bs) e to) else if so = 6 then nuOK (tx bs) (skp (tx bs) e to) (sc (fun j => tx bs j == 32) (skp (tx bs) e to) (to - skp (tx bs) e to) - skp (tx bs) e to) else rfOK (tx bs) (skp (tx bs) e to) (sc (fun j => tx bs j == 32) (skp (tx bs) e to) (to - skp (tx bs) e to) - skp (tx bs) e to)) = false then (r, some (2, skp (tx bs) e to))
      else if so = 2 ∧ r.1.any (fun b => decide (bSo b = 2) && decide (cut bs (bNf b) (bNt b) = cut bs (skp (tx bs) e to) (sc (fun j => tx bs j == 32) (skp (tx bs) e to) (to - skp (tx bs) e to)))) = true then (r, some (5, fi))
      else if so = 5 ∨ so = 6 then (opn r so fi 0 (skp (tx bs) e to) (sc (fun j => tx bs j == 32) (skp (tx bs) e to) (to - skp (tx bs) e to)) false, if skp (tx bs) (sc (fun j => tx bs j == 32) (skp (tx bs) e to) (to - skp (tx bs) e to)) to < to then some (2, skp (tx bs) (sc (fun j => tx bs j == 32) (skp (tx bs) e to) (to - skp (tx bs) e to)) to) else none)
      else rdPcs (tx bs) to (sc (fun j => tx bs j == 32) (skp (tx bs) e to) (to - skp (tx bs) e to)) (opn r so fi 0 (skp (tx bs) e to) (sc (fun j => tx bs j == 32) (skp (tx bs) e to) (to - skp (tx bs) e to)) false)) := by
    unfold gj187_70
    by_cases c3 : so = 3
    · rw [if_pos (show nI so = 3 by rw [c3]; rfl), if_pos c3]
      have := g187_o A hl ht hE M l24 w2 h31 (fi := fi) (so := so) (p := e) (z := e) (by omega) (Nat.le_refl _) (by omega)
      rw [if_neg (by omega)] at this
      subst c3
      exact this
    · rw [if_neg (show ¬ _ = (3 : Int32) from nI_ne c3 (by omega) (by decide)), if_neg c3, g169_s A hl ht (by omega)]
      simp only [bS]
      have k1 := skp_ge (f := tx bs) (show e ≤ to by omega)
      generalize skp (tx bs) e to = p at k1 ⊢
      rw [g170_s A hl ht (by omega)]
      simp only [bS]
      have z1 := sc_ge (fun j => tx bs j == 32) (to - p) p
      generalize sc (fun j => tx bs j == 32) p (to - p) = z at z1 ⊢
      rw [g186_s A (by omega) z1.1 (by omega)]
      simp only [bS, bZ_0]
      by_cases c4 : (if so = 2 then nmOK (tx bs) p (z - p) else if so = 6 then nuOK (tx bs) p (z - p) else rfOK (tx bs) p (z - p)) = false
      · rw [if_pos c4, if_pos c4]
        exact bad 2 p
      · rw [if_neg c4, if_neg c4]
        have o := g187_o A hl ht hE M l24 w2 h31 (fi := fi) (so := so) (p := p) (z := z) (by omega) z1.1 (by omega)
        by_cases c5 : so = 2
        · rw [if_pos (show nI so = 2 by rw [c5]; rfl), pk_sub z1.1, g185_s A M w1 w3 z1.1 (by omega)]
          simp only [bS, bZ_0]
          by_cases c6 : r.1.any (fun b => decide (bSo b = 2) && decide (cut bs (bNf b) (bNt b) = cut bs p z)) = true
          · rw [if_neg (by rw [c6]; decide), if_pos ⟨c5, c6⟩]
            exact bad 5 fi
          · rw [if_pos (Bool.eq_false_iff.mpr c6), if_neg fun h9 => c6 h9.2]
            exact o
        · rw [if_neg (show ¬ _ = (2 : Int32) from nI_ne c5 (by omega) (by decide)), if_neg (show ¬ (so = 2 ∧ _) from fun h9 => c5 h9.1)]
          exact o
  have sw : ∀ X Y : Option mS, (if nI so = 3 then X else if nI so = 6 then X else Y) = if so = 3 ∨ so = 6 then X else Y := fun X Y => by
    by_cases h3 : so = 3
    · rw [if_pos (show nI so = 3 by rw [h3]; rfl), if_pos (Or.inl h3)]
    · rw [if_neg (show ¬ _ = (3 : Int32) from nI_ne h3 (by omega) (by decide))]
      by_cases h6 : so = 6
      · rw [if_pos (show nI so = 6 by rw [h6]; rfl), if_pos (Or.inr h6)]
      · rw [if_neg (show ¬ _ = (6 : Int32) from nI_ne h6 (by omega) (by decide)), if_neg (by omega)]
  rw [sw]
  by_cases h36 : so = 3 ∨ so = 6
  · rw [if_pos h36]
    unfold gj187_55
    rw [g184_s M w1 hB (by omega)]
    simp only [bS, bZ_0]
    by_cases c6 : r.1.any (fun b => bSo b == so) = true
    · rw [if_neg (by rw [c6]; decide), if_pos ⟨h36, c6⟩]
      exact bad 5 fi
    · rw [if_pos (Bool.eq_false_iff.mpr c6), if_neg (show ¬ ((so = 3 ∨ so = 6) ∧ _) from fun h9 => c6 h9.2)]
      exact e70
  · rw [if_neg h36, if_neg (show ¬ ((so = 3 ∨ so = 6) ∧ _) from fun h9 => h36 h9.1)]
    exact e70
/-- the state between two lines -/
def rdL (S : mS) (r : Rd) (gap mb : Bool) : Prop := mRd S 40 r ∧ S.1 31 = 0 ∧ S.1 35 = bZ (hasTg r) ∧ S.1 36 = bZ gap ∧ S.1 34 = bZ mb ∧ (0 < r.1.length → S.1 38 = -1)
abbrev rdJ : List Nat := [31, 32, 35, 36, 37, 38, 39, 40, 41, 42, 43]
/-- a line -/
theorem g177_1 (A : aF S 12 24000 (tx bs) bs.length) {p : Nat} (hp : p < bs.length) {gap mb : Bool} (L : rdL S r gap mb) (w : wRd (tx bs) bs.length p r) (hg : r.1.length = 0 → gap = true) (n : Nat) : ∃ S', gl177_84 (n + 1) (nI bs.length) (nI p) S = gl177_84 n (nI bs.length) (nI (sc (fun j => tx bs j == 10) p (bs.length - p) + 1)) S' ∧ rF rdJ S S' ∧ match rdLine bs mb p (sc (fun j => tx bs j == 10) p (bs.length - p)) gap r with
    | (r2, none) => rdL S' r2 (decide (sc (fun j => tx bs j == 10) p (bs.length - p) ≤ skp (tx bs) p (sc (fun j => tx bs j == 10) p (bs.length - p)))) mb
    | (_, some q) => S'.1 31 = nI q.1 ∧ S'.1 32 = nI q.2 := by
  have hN := A.n600
  obtain ⟨M, h31, h35, h36, h34, h38⟩ := L
  have l1 := ln_end (bs := bs) p (by omega)
  rw [gl177_84]
  dsimp only
  rw [if_neg (nI_ge hp (by omega)), if_pos h31, g178_s A (by omega)]
  simp only [bS]
  generalize sc (fun j => tx bs j == 10) p (bs.length - p) = to at l1 ⊢
  have A1 : aF (sPut S 37 (nI to)) 12 24000 (tx bs) bs.length := A
  have M1 : mRd (sPut S 37 (nI to)) 40 r := M
  have F1 : rF rdJ S (sPut S 37 (nI to)) := rF.put (by decide)
  have k37 : (sPut S 37 (nI to)).1 37 = nI to := rfl
  have k31 : (sPut S 37 (nI to)).1 31 = 0 := h31
  have k35 : (sPut S 37 (nI to)).1 35 = bZ (hasTg r) := h35
  have k36 : (sPut S 37 (nI to)).1 36 = bZ gap := h36
  have k34 : (sPut S 37 (nI to)).1 34 = bZ mb := h34
  have k38 : 0 < r.1.length → (sPut S 37 (nI to)).1 38 = -1 := h38
  generalize sPut S 37 (nI to) = T at A1 M1 F1 k37 k31 k35 k36 k34 k38 ⊢
  rw [g169_s A1 k37 l1.2.1 l1.1]
  simp only [bS]
  have k1 := skp_ge (f := tx bs) l1.1
  unfold rdLine
  dsimp only
  generalize skp (tx bs) p to = x at k1 ⊢
  rw [k37]
  have w1 := w.1
  have w2 := w.2.1
  have hB : ∀ b ∈ r.1, bSo b ≤ 7 ∧ bDe b ≤ 2 := fun b hb => ⟨(w.2.2.1 b hb).1, (w.2.2.1 b hb).2.2.1⟩
  -- behind the line
  have fin : ∀ (U : mS) (b : Bool), rF rdJ S U → U.1 37 = nI to → (nI x = nI to ↔ b = true) → ∃ S', gj177_171 (gl177_84 n) (nI bs.length) (nI p) (nI x) U = gl177_84 n (nI bs.length) (nI (to + 1)) S' ∧ S' = sPut U 36 (bZ b) := fun U b u1 u2 hb => by
    unfold gj177_171 gj177_185
    rw [u2]
    simp only [bS]
    rw [show (sPut U 36 1).1 37 = nI to from u2, show (sPut U 36 0).1 37 = nI to from u2, nI_1]
    cases b with
    | true =>
      rw [if_pos (hb.mpr rfl), if_pos (by decide)]
      exact ⟨_, Eq.refl _, rfl⟩
    | false =>
      rw [if_neg (fun h9 => absurd (hb.mp h9) (by decide)), if_pos (by decide)]
      exact ⟨_, Eq.refl _, rfl⟩
  by_cases c0 : to ≤ x
  · have e0 : x = to := by omega
    rw [if_pos (by rw [e0]), if_pos c0]
    obtain ⟨V, v1, v2⟩ := fin (sPut T 36 1) true (F1.tr (rF.put (by decide))) k37 ⟨fun _ => rfl, fun _ => by rw [e0]⟩
    refine ⟨V, v1, by rw [v2]; exact F1.tr ((rF.put (by decide)).tr (rF.put (by decide))), ?_⟩
    dsimp only
    rw [decide_eq_true c0, v2]
    exact ⟨M1, k31, k35, rfl, k34, k38⟩
  · rw [if_neg (nI_ne (show ¬ x = to by omega) (by omega) (by omega)), if_neg c0, g167_s A1 (by omega)]
    simp only [bS]
    have c := (A.2.2 x (by omega)).1
    rw [decide_eq_false c0]
    -- a line function has been called
    have go : ∀ (U : mS) (o : Rd × Option (Nat × Nat)), rF lnJ T U → U.1 37 = nI to → rdQ U o → ∃ S', gj177_171 (gl177_84 n) (nI bs.length) (nI p) (nI x) U = gl177_84 n (nI bs.length) (nI (to + 1)) S' ∧ rF rdJ S S' ∧ match o with
        | (r2, none) => rdL S' r2 false mb
        | (_, some q) => S'.1 31 = nI q.1 ∧ S'.1 32 = nI q.2 := fun U o u1 u2 u3 => by
      have FU : rF rdJ S U := F1.tr (u1.mono (by decide))
      obtain ⟨V, v1, v2⟩ := fin U false FU u2 ⟨fun h9 => absurd ((nI_eq (by omega) (by omega)).mp h9) (by omega), fun h9 => by cases h9⟩
      refine ⟨V, v1, by rw [v2]; exact FU.tr (rF.put (by decide)), ?_⟩
      obtain ⟨r2, o⟩ := o
      cases o with
      | none =>
        obtain ⟨q1, q2, q3, q4⟩ := u3
        dsimp only
        rw [v2]
        exact ⟨q1, q2, q3, rfl, by show U.1 34 = _; rw [u1.1.1 34 (by decide)]; exact k34, fun _ => q4⟩
      | some q =>
        dsimp only
        rw [v2]
        exact u3
    by_cases c1 : tx bs x = 64
    · rw [if_pos (show nI (tx bs x) = 64 by rw [c1]; rfl), if_pos c1]
      obtain ⟨U, u1, u2, u3, u4⟩ := g187_s A1 k37 l1.2.1 l1.2.2 M1 w k31 (show x < to by omega) c1
      rw [u1]
      simp only [bS]
      exact go U _ u2 u3 u4
    · rw [if_neg (show ¬ _ = (64 : Int32) from nI_ne c1 (by omega) (by decide)), if_neg c1, g179_s A1 k37 l1.2.1 (by omega)]
      simp only [bS, bZ_0]
      cases c2 : isIt (tx bs) x to with
      | true =>
        rw [if_neg (show ¬ true = false by decide), if_pos (Eq.refl true), pk_sub k1.1]
        obtain ⟨U, u1, u2, u3, u4⟩ := g180_s A1 k37 l1.2.1 l1.2.2 M1 w1 w2 hB k31 k35 k36 (show x < to by omega) (show x - p ≤ 600 by omega)
        rw [u1]
        simp only [bS]
        exact go U _ u2 u3 u4
      | false =>
        rw [if_pos (Eq.refl false), if_neg (show ¬ false = true by decide)]
        obtain ⟨U, u1, u2, u3, u4⟩ := g181_s A1 k37 l1.2.1 l1.2.2 M1 w1 w2 hB k31 k35 k36 k34 hg k38 (show x < to by omega) (k1.2.2 (by omega))
        rw [u1]
        simp only [bS]
        exact go U _ u2 u3 u4
end PMRD
