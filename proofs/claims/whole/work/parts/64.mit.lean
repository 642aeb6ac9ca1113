section PMIT
variable {S : mS} {f : Nat → Nat} {N to : Nat} {r : Rd}
theorem opn_get {so pl de nf nt : Nat} {jo : Bool} {k : Nat} : (opn r so pl de nf nt jo).1.getD k bkD = if k = r.1.length then (so, pl, de, r.2.length, 0, nf, nt, jo) else r.1.getD k bkD := by
  simp only [opn, List.getD_eq_getElem?_getD]
  by_cases h : k = r.1.length
  · rw [if_pos h, h]
    simp
  · rw [if_neg h]
    by_cases h2 : k < r.1.length
    · rw [List.getElem?_append_left h2]
    · rw [List.getElem?_eq_none (by simp; omega), List.getElem?_eq_none (by omega)]
theorem opn_len {so pl de nf nt : Nat} {jo : Bool} : (opn r so pl de nf nt jo).1.length = r.1.length + 1 := by simp [opn]
theorem opn_last {so pl de nf nt : Nat} {jo : Bool} : lastB (opn r so pl de nf nt jo) = (so, pl, de, r.2.length, 0, nf, nt, jo) := by
  unfold lastB opn
  simp
theorem mRd_opn {S' : mS} {so pl de nf nt : Nat} {jo : Bool} (M : mRd S 40 r) (e14 : S'.2 14 40 = nI (r.1.length + 1)) (e15 : S'.2 15 40 = S.2 15 40) (eB : ∀ k, 16 ≤ k → k ≤ 23 → ∀ n, n ≠ 960 + r.1.length → S'.2 k n = S.2 k n) (eP : ∀ k, 24 ≤ k → k ≤ 30 → ∀ n, S'.2 k n = S.2 k n) (nb : mBk S' (960 + r.1.length) (so, pl, de, r.2.length, 0, nf, nt, jo)) : mRd S' 40 (opn r so pl de nf nt jo) := by
  obtain ⟨⟨m14, mB⟩, m15, mP⟩ := M
  refine ⟨⟨?_, fun k hk => ?_⟩, ?_, fun k hk => ?_⟩
  · rw [opn_len, e14]
  · rw [opn_len] at hk
    rw [opn_get]
    by_cases h : k = r.1.length
    · rw [if_pos h, h]
      exact nb
    · rw [if_neg h]
      have b := mB k (by omega)
      unfold mBk at b ⊢
      rw [eB 16 (by decide) (by decide) _ (by omega), eB 17 (by decide) (by decide) _ (by omega), eB 18 (by decide) (by decide) _ (by omega), eB 19 (by decide) (by decide) _ (by omega), eB 20 (by decide) (by decide) _ (by omega), eB 21 (by decide) (by decide) _ (by omega), eB 22 (by decide) (by decide) _ (by omega), eB 23 (by decide) (by decide) _ (by omega)]
      exact b
  · rw [e15]
    exact m15
  · have b := mP k hk
    unfold mPc at b ⊢
    rw [eP 24 (by decide) (by decide), eP 25 (by decide) (by decide), eP 26 (by decide) (by decide), eP 27 (by decide) (by decide), eP 28 (by decide) (by decide), eP 29 (by decide) (by decide), eP 30 (by decide) (by decide)]
    exact b
theorem mRd_o23 {so pl de nf nt : Nat} {jo j2 : Bool} (M : mRd S 40 (opn r so pl de nf nt jo)) : mRd (sSet S 23 (960 + r.1.length) (bZ j2)) 40 (opn r so pl de nf nt j2) := by
  obtain ⟨⟨m14, mB⟩, m15, mP⟩ := M
  rw [opn_len] at m14 mB
  refine ⟨⟨?_, fun k hk => ?_⟩, ?_, fun k hk => ?_⟩
  · rw [opn_len, sS_ne (by omega)]
    exact m14
  · rw [opn_len] at hk
    have b := mB k hk
    rw [opn_get] at b ⊢
    unfold mBk at b ⊢
    simp (disch := omega) only [sS_ne]
    by_cases h : k = r.1.length
    · rw [if_pos h] at b ⊢
      exact ⟨b.1, b.2.1, b.2.2.1, b.2.2.2.1, b.2.2.2.2.1, b.2.2.2.2.2.1, b.2.2.2.2.2.2.1, by rw [sS_e2 (by omega)]; rfl⟩
    · rw [if_neg h] at b ⊢
      rw [sS_ne (by omega)]
      exact b
  · rw [sS_ne (by omega)]
    exact m15
  · have b := mP k hk
    unfold mPc at b ⊢
    simp (disch := omega) only [sS_ne]
    exact b
theorem mRd_o21 {so pl de nf nt a z : Nat} {jo : Bool} (M : mRd S 40 (opn r so pl de nf nt jo)) : mRd (sSet (sSet S 21 (960 + r.1.length) (nI a)) 22 (960 + r.1.length) (nI (z - a))) 40 (opn r so pl de a z jo) := by
  obtain ⟨⟨m14, mB⟩, m15, mP⟩ := M
  rw [opn_len] at m14 mB
  refine ⟨⟨?_, fun k hk => ?_⟩, ?_, fun k hk => ?_⟩
  · rw [opn_len, sS_ne (by omega), sS_ne (by omega)]
    exact m14
  · rw [opn_len] at hk
    have b := mB k hk
    rw [opn_get] at b ⊢
    unfold mBk at b ⊢
    simp (disch := omega) only [sS_ne]
    by_cases h : k = r.1.length
    · rw [if_pos h] at b ⊢
      exact ⟨b.1, b.2.1, b.2.2.1, b.2.2.2.1, b.2.2.2.2.1, by rw [sS_e2 (by omega)]; rfl, by rw [sS_e2 (by omega)]; rfl, b.2.2.2.2.2.2.2⟩
    · rw [if_neg h] at b ⊢
      rw [sS_ne (by omega), sS_ne (by omega)]
      exact b
  · rw [sS_ne (by omega), sS_ne (by omega)]
    exact m15
  · have b := mP k hk
    unfold mPc at b ⊢
    simp (disch := omega) only [sS_ne]
    exact b
theorem g173_s (M : mRd S 40 r) (h24 : r.1.length < 24) (so de pl : Nat) : ∃ S', g173 (nI so) (nI de) (nI pl) S = some S' ∧ mRd S' 40 (opn r so pl de 0 0 false) ∧ S'.1 38 = -1 ∧ rF [38] S S' ∧ S'.2 14 40 = nI (r.1.length + 1) := by
  obtain ⟨⟨m14, mB⟩, m15, mP⟩ := id M
  unfold g173
  simp (disch := omega) only [lt_40, lt_960, ld_14, ld_15, st_14, m14, nI_add, nI_1, st_16, st_17, st_18, st_19, st_20, st_21, st_22, st_23, bS, sS_ne, m15, nar0]
  refine ⟨_, rfl, mRd_opn M ?_ ?_ (fun k x1 x2 n x3 => ?_) (fun k x1 x2 n => ?_) ⟨?_, ?_, ?_, ?_, ?_, ?_, ?_, ?_⟩, sP_eq, ?_, ?_⟩
  · simp (disch := omega) only [sS_ne, sP_2, sS_eq]
  · simp (disch := omega) only [sS_ne, sP_2]
  · simp (disch := omega) only [sS_ne, sP_2]
  · simp (disch := omega) only [sS_ne, sP_2]
  · simp (disch := omega) only [sS_ne, sP_2, sS_eq]; rfl
  · simp (disch := omega) only [sS_ne, sP_2, sS_eq]; rfl
  · simp (disch := omega) only [sS_ne, sP_2, sS_eq]; rfl
  · simp (disch := omega) only [sS_ne, sP_2, sS_eq]; rfl
  · simp (disch := omega) only [sS_ne, sP_2, sS_eq]; rfl
  · simp (disch := omega) only [sS_ne, sP_2, sS_eq]; rfl
  · simp (disch := omega) only [sS_ne, sP_2, sS_eq]; rfl
  · simp (disch := omega) only [sS_ne, sP_2, sS_eq]; rfl
  · exact (((((((((rF.set (by decide) (by simp [uE])).tr (rF.set (by decide) (by simp [uE]))).tr (rF.set (by decide) (by simp [uE]))).tr (rF.set (by decide) (by simp [uE]))).tr (rF.set (by decide) (by simp [uE]))).tr (rF.set (by decide) (by simp [uE]))).tr (rF.set (by decide) (by simp [uE]))).tr (rF.set (by decide) (by simp [uE]))).tr (rF.set (by decide) (by simp [uE]))).tr (rF.put (by decide))
  · simp (disch := omega) only [sS_ne, sP_2, sS_eq]
theorem g174_s (m14 : S.2 14 40 = nI r.1.length) (hL : 0 < r.1.length) : g174 S = some (nI (960 + r.1.length - 1), S) := by
  unfold g174
  simp (disch := omega) only [lt_40, lt_960, ld_14, m14, nI_add, nI_s1, bS]
theorem hasTg_up {ps : List Pc} (h : 0 < r.1.length) : hasTg (upR r ps) = hasTg r := by
  unfold hasTg
  rw [upR_len h]
  congr 2
  unfold upR
  simp [lastB, bPlus, bSo]
theorem hasTg_opn {so pl de nf nt : Nat} {jo : Bool} : hasTg (opn r so pl de nf nt jo) = isTg so := by
  unfold hasTg
  rw [opn_len, opn_last, decide_eq_true (by omega)]
  rfl
abbrev lnJ : List Nat := [31, 32, 35, 37, 38, 39, 40, 41, 42, 43]
/-- the state behind a line -/
def rdQ (S' : mS) (o : Rd × Option (Nat × Nat)) : Prop := match o.2 with
  | none => mRd S' 40 o.1 ∧ S'.1 31 = 0 ∧ S'.1 35 = bZ (hasTg o.1) ∧ S'.1 38 = -1
  | some q => S'.1 31 = nI q.1 ∧ S'.1 32 = nI q.2
theorem rdQ_f {c p : Nat} {r2 : Rd} : rdQ (sPut (sPut S 31 (nI c)) 32 (nI p)) (r2, some (c, p)) := ⟨rfl, rfl⟩
/-- reading pieces into an open block -/
theorem g175_q (A : aF S 12 24000 f N) (hl : S.1 37 = nI to) (ht : to ≤ N) (hE : f to = 10 ∨ 256 ≤ f to) (M : mRd S 40 r) (hL : 0 < r.1.length) (h24 : r.1.length ≤ 24) (h120 : r.2.length ≤ 120) (h31 : S.1 31 = 0) (h35 : S.1 35 = bZ (hasTg r)) (h38 : S.1 38 = -1) {i : Nat} (hi : i ≤ to) : ∃ S', g175 (nI i) S = some S' ∧ rF lnJ S S' ∧ S'.1 37 = nI to ∧ rdQ S' (rdPcs f to i r) := by
  obtain ⟨S', a, b, c, d⟩ := g175_s A hl ht hE M hL h24 h120 h31 h38 hi
  refine ⟨S', a, b.mono (by decide), by rw [b.1.1 37 (by decide)]; exact hl, ?_⟩
  rw [rdPcs_eq] at d ⊢
  unfold rdO at d
  unfold rdQ
  dsimp only at d ⊢
  cases hq : (pcs f to 700 (skp f i to) false r.2).2 with
  | none =>
    rw [hq] at d
    exact ⟨d.1, d.2, by rw [b.1.1 35 (by decide), h35, hasTg_up hL], c⟩
  | some q =>
    rw [hq] at d
    exact d
theorem bZ_and {a b : Bool} : bZ (a && b) = if a = true then bZ b else 0 := by cases a <;> rfl
/-- item -/
theorem g180_s (A : aF S 12 24000 f N) (hl : S.1 37 = nI to) (ht : to ≤ N) (hE : f to = 10 ∨ 256 ≤ f to) (M : mRd S 40 r) (h24 : r.1.length ≤ 24) (h120 : r.2.length ≤ 120) (hB : ∀ b ∈ r.1, bSo b ≤ 7 ∧ bDe b ≤ 2) (h31 : S.1 31 = 0) (h35 : S.1 35 = bZ (hasTg r)) {gap : Bool} (h36 : S.1 36 = bZ gap) {fi bl : Nat} (hfi : fi < to) (hbl : bl ≤ 600) : ∃ S', g180 (nI fi) (nI bl) S = some S' ∧ rF lnJ S S' ∧ S'.1 37 = nI to ∧ rdQ S' (rdItem f fi to bl gap r) := by
  have hN := A.n600
  obtain ⟨⟨m14, mB⟩, m15, mP⟩ := id M
  have hlast : 0 < r.1.length → bSo (lastB r) ≤ 7 ∧ bDe (lastB r) ≤ 2 ∧ S.2 16 (960 + r.1.length - 1) = nI (bSo (lastB r)) ∧ S.2 17 (960 + r.1.length - 1) = nI (bDe (lastB r)) := fun h => by
    have b := mB (r.1.length - 1) (by omega)
    rw [← lastB_g h, show 24 * 40 + (r.1.length - 1) = 960 + r.1.length - 1 by omega] at b
    have hm : lastB r ∈ r.1 := by
      rw [lastB_g h, List.getD_eq_getElem?_getD, List.getElem?_eq_getElem (by omega)]
      exact List.getElem_mem _
    exact ⟨(hB _ hm).1, (hB _ hm).2, b.1, b.2.1⟩
  -- who is ahead
  have e1 : g180 (nI fi) (nI bl) S = gj180_35 (nI fi) (nI bl) (bZ (decide (0 < r.1.length) && !gap && decide (bSo (lastB r) = 1))) S := by
    unfold g180
    simp (disch := omega) only [lt_40, ld_14, m14, bS, nI_z1, h36, bZ_0]
    by_cases h0 : r.1.length = 0
    · rw [if_pos h0, decide_eq_false (show ¬ 0 < r.1.length by omega)]
      rfl
    · have hx := hlast (by omega)
      rw [if_neg h0, decide_eq_true (show 0 < r.1.length by omega)]
      cases gap with
      | true => rfl
      | false =>
        rw [if_pos rfl, g174_s m14 (by omega)]
        simp (disch := omega) only [bS, ld_16, hx.2.2.1, nI_o]
        by_cases h1 : bSo (lastB r) = 1
        · rw [if_pos h1, decide_eq_true h1]
          rfl
        · rw [if_neg h1, decide_eq_false h1]
          rfl
  rw [e1]
  unfold rdItem
  dsimp only
  have ah0 : (decide (0 < r.1.length) && !gap && decide (bSo (lastB r) = 1)) = true → 0 < r.1.length := fun h => by
    simp at h
    omega
  generalize (decide (0 < r.1.length) && !gap && decide (bSo (lastB r) = 1)) = ah at ah0 ⊢
  have e2 : gj180_35 (nI fi) (nI bl) (bZ ah) S = gj180_55 (nI fi) (nI bl) (bZ ah) (nI (if ah = true then bDe (lastB r) + 1 else 0)) S := by
    unfold gj180_35
    cases ah with
    | false => rfl
    | true =>
      have hx := hlast (ah0 rfl)
      rw [if_neg (by decide), g174_s m14 (ah0 rfl)]
      simp (disch := omega) only [bS, ld_17, hx.2.2.2, nI_1, if_true]
  have hm : (if ah = true then bDe (lastB r) + 1 else 0) ≤ 3 := by
    cases ah with
    | false => exact Nat.zero_le _
    | true =>
      have hx := hlast (ah0 rfl)
      rw [if_pos rfl]
      omega
  rw [e2]
  generalize (if ah = true then bDe (lastB r) + 1 else 0) = most at hm ⊢
  unfold gj180_55
  rw [h35]
  have hh : nI bl / 2 = nI (bl / 2) := pk_div (d := 2) (by omega) (by decide) (by decide)
  have hr : xrem (nI bl) 2 = nI (bl % 2) := pk_rem (d := 2) (by omega) (by decide) (by decide)
  rw [hh, hr]
  have e98 : ∃ S', gj180_98 (nI fi) (nI bl) (bZ ah) (nI most) (nI (bl / 2)) S = some S' ∧ rF lnJ S S' ∧ S'.1 37 = nI to ∧ rdQ S' (r, some (3, fi)) := by
    unfold gj180_98
    rw [show (3 : Int32) = nI 3 from rfl, g166_s _ _ h31]
    exact ⟨_, rfl, (rF.put (by decide)).tr (rF.put (by decide)), hl, rdQ_f⟩
  cases ht2 : hasTg r with
  | true =>
    rw [if_neg (by decide), if_pos rfl, show (2 : Int32) = nI 2 from rfl, g166_s _ _ h31]
    exact ⟨_, rfl, (rF.put (by decide)).tr (rF.put (by decide)), hl, rdQ_f⟩
  | false =>
    rw [if_pos (show bZ false = 0 from rfl), if_neg (show ¬ false = true by decide)]
    by_cases h1 : bl % 2 = 1
    · rw [if_pos (by rw [h1]; rfl), if_pos (Or.inl h1)]
      exact e98
    rw [if_neg (show ¬ _ = (1 : Int32) from nI_ne h1 (by omega) (by decide))]
    by_cases h2 : 2 < bl / 2
    · rw [if_pos (show (2 : Int32) < nI (bl / 2) from nI_lt (a := 2) h2 (by omega)), if_pos (Or.inr (Or.inl h2))]
      exact e98
    rw [if_neg (show ¬ (2 : Int32) < nI (bl / 2) from nI_nlt (a := 2) (by omega) (by decide))]
    by_cases h3 : most < bl / 2
    · rw [if_neg (nI_ge h3 (by omega)), if_pos (Or.inr (Or.inr h3))]
      exact e98
    rw [if_pos (nI_le (by omega) (by omega)), if_neg (by omega), lt_40, ld_14 (by decide), m14]
    simp only [bS]
    by_cases h4 : r.1.length = 24
    · rw [if_pos (by rw [h4]; rfl), if_pos h4, show (4 : Int32) = nI 4 from rfl, g166_s _ _ h31]
      exact ⟨_, rfl, (rF.put (by decide)).tr (rF.put (by decide)), hl, rdQ_f⟩
    rw [if_neg (show ¬ _ = (24 : Int32) from nI_ne h4 (by omega) (by decide)), if_neg h4]
    obtain ⟨T, t1, t2, t3, t4, t5⟩ := g173_s M (show r.1.length < 24 by omega) 1 (bl / 2) fi
    have t6 : g174 T = some (nI (960 + r.1.length), T) := by
      have := g174_s (S := T) (r := opn r 1 fi (bl / 2) 0 0 false) (by rw [opn_len]; exact t5) (by rw [opn_len]; omega)
      rw [opn_len] at this
      exact this
    rw [show (1 : Int32) = nI 1 from rfl, t1]
    simp (disch := omega) only [bS, t6, st_23, bZ_n, nI_add]
    have M2 := mRd_o23 (j2 := ah) t2
    have F2 : rF [38] S (sSet T 23 (960 + r.1.length) (bZ ah)) := t4.tr (rF.set (by decide) (by simp [uE]))
    obtain ⟨U, u1, u2, u3, u4⟩ := g175_q (F2.aF A) (show T.1 37 = nI to by rw [t4.1.1 37 (by decide)]; exact hl) ht hE M2 (by rw [opn_len]; omega) (by rw [opn_len]; omega) h120 (show T.1 31 = 0 by rw [t4.1.1 31 (by decide)]; exact h31) (show T.1 35 = _ by rw [t4.1.1 35 (by decide), h35, ht2, hasTg_opn]; rfl) t3 (show fi + 1 ≤ to by omega)
    rw [u1]
    exact ⟨U, rfl, (F2.mono (by decide)).tr u2, u3, u4⟩
end PMIT
