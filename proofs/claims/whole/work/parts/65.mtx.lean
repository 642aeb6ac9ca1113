section PMTX
variable {S : mS} {f : Nat → Nat} {N to : Nat} {r : Rd}
theorem skp_ge {i e : Nat} (h : i ≤ e) : i ≤ skp f i e ∧ skp f i e ≤ e ∧ (skp f i e < e → f (skp f i e) ≠ 32) := by
  have s1 := sc_ge (fun j => !(f j == 32)) (e - i) i
  have s2 := sc_at (fun j => !(f j == 32)) (e - i) i
  rw [show sc (fun j => !(f j == 32)) i (e - i) = skp f i e from rfl] at s1 s2
  refine ⟨s1.1, by omega, fun h9 => ?_⟩
  have := s2 (by omega)
  simpa using this
/-- whether {inherit} is alone -/
theorem g182_s (A : aF S 12 24000 f N) (hl : S.1 37 = nI to) (ht : to ≤ N) {fi : Nat} (hfi : fi + 9 ≤ to) : ∃ S', g182 (nI fi) (nI N) S = some (bZ (decide (to ≤ skp f (fi + 9) to) && (let e := sc (fun j => f j == 10) (to + 1) (N - (to + 1))
   let x := skp f (to + 1) e
   decide (N ≤ to + 1) || decide (e ≤ x) || (f x == 64) || isIt f x e)), S') ∧ df [37] [] S S' ∧ S'.1 37 = nI to := by
  have hN := A.n600
  have k1 := skp_ge (f := f) hfi
  unfold g182
  rw [lt_9, nI_add, g169_s A hl ht hfi]
  simp only [bS]
  rw [hl]
  by_cases h1 : to ≤ skp f (fi + 9) to
  · rw [if_pos (nI_le h1 (by omega)), decide_eq_true h1]
    rw [nI_1]
    by_cases h2 : N ≤ to + 1
    · rw [if_pos (nI_le h2 (by omega)), decide_eq_true h2]
      exact ⟨_, rfl, df.put (by decide), rfl⟩
    · rw [if_neg (nI_ge (by omega) (by omega)), g178_s A (by omega), decide_eq_false h2]
      simp only [bS]
      have e1 := sc_ge (fun j => f j == 10) (N - (to + 1)) (to + 1)
      generalize sc (fun j => f j == 10) (to + 1) (N - (to + 1)) = e at e1 ⊢
      have A2 : aF (sPut S 37 (nI e)) 12 24000 f N := A
      have l2 : (sPut S 37 (nI e)).1 37 = nI e := rfl
      have k2 := skp_ge (f := f) (show to + 1 ≤ e by omega)
      rw [g169_s A2 l2 (by omega) (by omega)]
      simp only [bS]
      rw [l2]
      have F : ∀ b : Bool, ∃ S', gj182_89 (nI fi) (nI N) (nI to) (bZ b) (sPut S 37 (nI e)) = some (bZ b, S') ∧ df [37] [] S S' ∧ S'.1 37 = nI to := fun b => by
        unfold gj182_89
        simp only [bS]
        rw [if_pos bZ_p]
        exact ⟨_, rfl, (df.put (by decide)).tr (df.put (by decide)), rfl⟩
      by_cases h3 : skp f (to + 1) e = e
      · rw [if_pos (by rw [h3]), h3, decide_eq_true (Nat.le_refl e)]
        exact F true
      · have c := (A.2.2 (skp f (to + 1) e) (by omega)).1
        rw [if_neg (nI_ne h3 (by omega) (by omega)), g167_s A2 (by omega), decide_eq_false (show ¬ e ≤ skp f (to + 1) e by omega)]
        simp only [bS]
        by_cases h4 : f (skp f (to + 1) e) = 64
        · rw [if_pos (show nI (f (skp f (to + 1) e)) = 64 by rw [h4]; rfl), show (f (skp f (to + 1) e) == 64) = true from by simp [h4]]
          exact F true
        · rw [if_neg (show ¬ _ = (64 : Int32) from nI_ne h4 (by omega) (by decide)), g179_s A2 l2 (by omega) (by omega), show (f (skp f (to + 1) e) == 64) = false from by simpa using h4]
          simp only [bS]
          cases isIt f (skp f (to + 1) e) e with
          | true =>
            rw [if_neg bZt]
            exact F true
          | false =>
            rw [if_pos bZf]
            exact F false
  · rw [if_neg (nI_ge (by omega) (by omega)), decide_eq_false h1]
    exact ⟨S, rfl, df.rfl', hl⟩
theorem isW_app (f : Nat → Nat) : ∀ (v w : List Nat) i, isW f i (v ++ w) = (isW f i v && isW f (i + v.length) w) := by
  intro v
  induction v with
  | nil => intro w i; simp [isW]
  | cons c v ih =>
    intro w i
    simp only [List.cons_append, isW, ih, List.length_cons, Bool.and_assoc]
    rw [show i + 1 + v.length = i + (v.length + 1) by omega]
theorem isW_inh {i : Nat} : isW f i wInh = (isW f i (wInh.take 8) && isW f (i + 8) [125]) := isW_app f (wInh.take 8) [125] i
/-- whether {inherit} begins a paragraph -/
theorem g181_i (A : aF S 12 24000 f N) (hl : S.1 37 = nI to) (ht : to ≤ N) (hE : f to = 10 ∨ 256 ≤ f to) {mb : Bool} (h34 : S.1 34 = bZ mb) {fi : Nat} (hfi : fi < to) : ∃ S', gj181_22 (nI fi) (nI N) 1 S = gj181_115 (nI fi) (nI N) 1 (bZ (isInh f N mb fi to)) S' ∧ df [37] [] S S' ∧ S'.1 37 = nI to := by
  have hN := A.n600
  have e1 : g168 (nI fi) 8892760333877406068 8 S = some (bZ (isW f fi (wInh.take 8)), S) := g168_w (w := wInh.take 8) A hl ht hE lw_inh (by omega)
  unfold gj181_22
  rw [if_neg (by decide), e1]
  simp only [bS]
  unfold isInh
  rw [isW_inh]
  cases h1 : isW f fi (wInh.take 8) with
  | false =>
    rw [if_pos bZf]
    refine ⟨S, ?_, df.rfl', hl⟩
    simp [gj181_114, bZ]
  | true =>
    have i8 := isW_in hE (wInh.take 8) fi (by decide) (by omega) h1
    rw [show (wInh.take 8).length = 8 from rfl] at i8
    have e2 : g168 (nI (fi + 8)) 125 1 S = some (bZ (isW f (fi + 8) [125]), S) := g168_w (w := [125]) A hl ht hE lw_end i8
    rw [if_neg bZt, lt_8, nI_add, e2]
    simp only [bS]
    cases h2 : isW f (fi + 8) [125] with
    | false =>
      rw [if_pos bZf]
      refine ⟨S, ?_, df.rfl', hl⟩
      simp [gj181_114, bZ]
    | true =>
      have i9 := isW_in hE [125] (fi + 8) (by decide) i8 h2
      rw [show [125].length = 1 from rfl] at i9
      rw [if_neg bZt, h34]
      cases mb with
      | false =>
        rw [if_pos bZf]
        exact ⟨S, rfl, df.rfl', hl⟩
      | true =>
        obtain ⟨T, t1, t2, t3⟩ := g182_s A hl ht (show fi + 9 ≤ to by omega)
        rw [if_neg bZt, t1]
        simp only [bS]
        refine ⟨T, ?_, t2, t3⟩
        rw [Bool.and_self, Bool.and_self, Bool.true_and]
        generalize (decide (to ≤ skp f (fi + 9) to) && _) = b
        cases b <;> rfl
theorem g166_n (c x : Int32) (h : ¬ S.1 31 = 0) : g166 c x S = some S := by
  unfold g166
  rw [if_neg h]
  rfl
theorem gD_mem {α : Type} {l : List α} {i : Nat} {d : α} (h : i < l.length) : l.getD i d ∈ l := by
  rw [List.getD_eq_getElem?_getD, List.getElem?_eq_getElem h]
  exact List.getElem_mem _
theorem any_take {p : Bk → Bool} {l : List Bk} {k : Nat} (h : k < l.length) : (l.take (k + 1)).any p = ((l.take k).any p || p (l.getD k bkD)) := by
  rw [take_s bkD h]
  simp
/-- the look for another {inherit} -/
theorem g181_l (x2 x3 x4 : Int32) (h24 : r.1.length ≤ 23) (hB : ∀ b ∈ r.1, bSo b ≤ 7 ∧ bDe b ≤ 2) {fi : Nat} (hfi : fi < 2000) : ∀ k n i (S : mS), i + k = r.1.length → k < n → mRd S 40 r → S.1 31 = 0 → (r.1.take i).any (fun b => bSo b == 7) = false → ∃ S', gl181_175 n (nI fi) x2 x3 x4 (nI i) S = some S' ∧ rF [31, 32, 38] S S' ∧ (if r.1.any (fun b => bSo b == 7) = true then S'.1 31 = nI 5 ∧ S'.1 32 = nI fi else mRd S' 40 (opn r 7 fi 0 0 0 false) ∧ S'.1 31 = 0 ∧ S'.1 38 = -1) := by
  -- once the fault is there it stays
  have bad : ∀ k n i (S : mS), i + k = r.1.length → k < n → mRd S 40 r → S.1 31 = nI 5 → S.1 32 = nI fi → ∃ S', gl181_175 n (nI fi) x2 x3 x4 (nI i) S = some S' ∧ rF [31, 32, 38] S S' ∧ S'.1 31 = nI 5 ∧ S'.1 32 = nI fi := by
    intro k
    induction k with
    | zero =>
      intro n i S hi hn M a b
      obtain ⟨n, rfl⟩ : ∃ m, n = m + 1 := ⟨n - 1, by omega⟩
      obtain ⟨T, t1, t2, t3, t4, t5⟩ := g173_s M (by omega) 7 0 fi
      rw [gl181_175]
      dsimp only
      rw [lt_40, ld_14 (by decide), M.1.1]
      simp only [bS]
      rw [if_pos (nI_le (by omega) (by omega)), show (7 : Int32) = nI 7 from rfl, show (0 : Int32) = nI 0 from rfl, t1]
      exact ⟨T, rfl, t4.mono (by decide), by rw [t4.1.1 31 (by decide)]; exact a, by rw [t4.1.1 32 (by decide)]; exact b⟩
    | succ k ih =>
      intro n i S hi hn M a b
      obtain ⟨n, rfl⟩ : ∃ m, n = m + 1 := ⟨n - 1, by omega⟩
      have m16 : S.2 16 (960 + i) = _ := (M.1.2 i (by omega)).1
      rw [gl181_175]
      dsimp only
      rw [lt_40, ld_14 (by decide), M.1.1]
      simp only [bS]
      rw [if_neg (nI_ge (by omega) (by omega)), lt_960, nI_add, ld_16 (by omega)]
      simp only [bS, gj181_209, nI_1]
      have h9 : ¬ S.1 31 = 0 := by rw [a]; decide
      rw [g166_n _ _ h9]
      simp only [bS, ite_self]
      exact ih n (i + 1) S (by omega) (by omega) M a b
  intro k
  induction k with
  | zero =>
    intro n i S hi hn M a hb
    obtain ⟨n, rfl⟩ : ∃ m, n = m + 1 := ⟨n - 1, by omega⟩
    rw [List.take_of_length_le (by omega)] at hb
    obtain ⟨T, t1, t2, t3, t4, t5⟩ := g173_s M (by omega) 7 0 fi
    rw [gl181_175]
    dsimp only
    rw [lt_40, ld_14 (by decide), M.1.1]
    simp only [bS]
    rw [if_pos (nI_le (by omega) (by omega)), show (7 : Int32) = nI 7 from rfl, show (0 : Int32) = nI 0 from rfl, t1]
    refine ⟨T, rfl, t4.mono (by decide), ?_⟩
    rw [if_neg (by rw [hb]; decide)]
    exact ⟨t2, by rw [t4.1.1 31 (by decide)]; exact a, t3⟩
  | succ k ih =>
    intro n i S hi hn M a hb
    obtain ⟨n, rfl⟩ : ∃ m, n = m + 1 := ⟨n - 1, by omega⟩
    have m16 : S.2 16 (960 + i) = nI (bSo (r.1.getD i bkD)) := (M.1.2 i (by omega)).1
    rw [gl181_175]
    dsimp only
    rw [lt_40, ld_14 (by decide), M.1.1]
    simp only [bS]
    rw [if_neg (nI_ge (by omega) (by omega)), lt_960, nI_add, ld_16 (by omega), m16]
    simp only [bS, gj181_209, nI_1]
    have hx := (hB _ (gD_mem (d := bkD) (show i < r.1.length by omega))).1
    by_cases h7 : bSo (r.1.getD i bkD) = 7
    · rw [if_pos (show nI (bSo (r.1.getD i bkD)) = 7 by rw [h7]; rfl), show (5 : Int32) = nI 5 from rfl, g166_s _ _ a]
      simp only [bS]
      have D : df [31, 32] [] S (sPut (sPut S 31 (nI 5)) 32 (nI fi)) := (df.put (by decide)).tr (df.put (by decide))
      obtain ⟨T, t1, t2, t3⟩ := bad k n (i + 1) _ (by omega) (by omega) (mRd_df D M) rfl rfl
      refine ⟨T, t1, ((df_rF D).mono (by decide)).tr t2, ?_⟩
      rw [if_pos (List.any_eq_true.mpr ⟨_, gD_mem (d := bkD) (show i < r.1.length by omega), by simp only [h7]; rfl⟩)]
      exact t3
    · rw [if_neg (show ¬ _ = (7 : Int32) from nI_ne h7 (by omega) (by decide))]
      refine ih n (i + 1) S (by omega) (by omega) M a ?_
      rw [any_take (by omega), hb]
      simpa using h7
/-- text -/
theorem g181_s (A : aF S 12 24000 f N) (hl : S.1 37 = nI to) (ht : to ≤ N) (hE : f to = 10 ∨ 256 ≤ f to) (M : mRd S 40 r) (h24 : r.1.length ≤ 24) (h120 : r.2.length ≤ 120) (hB : ∀ b ∈ r.1, bSo b ≤ 7 ∧ bDe b ≤ 2) (h31 : S.1 31 = 0) (h35 : S.1 35 = bZ (hasTg r)) {gap : Bool} (h36 : S.1 36 = bZ gap) {mb : Bool} (h34 : S.1 34 = bZ mb) (hg : r.1.length = 0 → gap = true) (h38 : 0 < r.1.length → S.1 38 = -1) {fi : Nat} (hfi : fi < to) (h32 : f fi ≠ 32) : ∃ S', g181 (nI fi) (nI N) S = some S' ∧ rF lnJ S S' ∧ S'.1 37 = nI to ∧ rdQ S' (rdText f N mb fi to gap r) := by
  have hN := A.n600
  obtain ⟨⟨m14, mB⟩, m15, mP⟩ := id M
  have e1 : g181 (nI fi) (nI N) S = gj181_22 (nI fi) (nI N) (bZ gap) S := by
    unfold g181
    simp (disch := omega) only [lt_40, ld_14, m14, bS, nI_z, h36, bZ_0]
    by_cases h0 : r.1.length = 0
    · rw [if_pos h0, hg h0, bZ_t]
      unfold gj181_17
      exact Eq.refl _
    · rw [if_neg h0]
      cases gap with
      | false => rw [if_pos (Eq.refl false), bZf]
      | true =>
        rw [if_neg (show ¬ true = false by decide), bZ_t]
        unfold gj181_17
        exact Eq.refl _
  rw [e1]
  unfold rdText
  cases gap with
  | false =>
    have hL : 0 < r.1.length := Nat.pos_of_ne_zero fun h9 => by have := hg h9; cases this
    have b := mB (r.1.length - 1) (by omega)
    rw [← lastB_g hL, show 24 * 40 + (r.1.length - 1) = 960 + r.1.length - 1 by omega] at b
    have hm : lastB r ∈ r.1 := by
      rw [lastB_g hL]
      exact gD_mem (by omega)
    have hx := (hB _ hm).1
    unfold gj181_22
    rw [if_pos bZf, g174_s m14 hL]
    simp (disch := omega) only [bS, ld_16, b.1, lt_5, lt_6, nI_eq]
    rw [if_neg (show ¬ false = true by decide)]
    have bad : ∃ S', gj181_51 (nI fi) (nI N) (bZ false) (nI (bSo (lastB r))) S = some S' ∧ rF lnJ S S' ∧ S'.1 37 = nI to ∧ rdQ S' (r, some (2, fi)) := by
      unfold gj181_51
      rw [show (2 : Int32) = nI 2 from rfl, g166_s _ _ h31]
      exact ⟨_, rfl, (rF.put (by decide)).tr (rF.put (by decide)), hl, rdQ_f⟩
    by_cases h5 : bSo (lastB r) = 5
    · rw [if_pos h5, if_pos (Or.inl h5)]
      exact bad
    · rw [if_neg h5]
      by_cases h6 : bSo (lastB r) = 6
      · rw [if_pos h6, if_pos (Or.inr h6)]
        exact bad
      · rw [if_neg h6, if_neg (by omega)]
        obtain ⟨U, u1, u2, u3, u4⟩ := g175_q A hl ht hE M hL h24 h120 h31 h35 (h38 hL) (show fi ≤ to by omega)
        rw [u1]
        exact ⟨U, rfl, u2, u3, u4⟩
  | true =>
    obtain ⟨T, t1, t2, t3⟩ := g181_i A hl ht hE h34 hfi
    have e2 : gj181_22 (nI fi) (nI N) (bZ true) S = gj181_115 (nI fi) (nI N) 1 (bZ (isInh f N mb fi to)) T := by rw [bZ_t]; exact t1
    rw [e2, if_pos (show true = true from rfl)]
    have At := aF_df t2 (by decide) A
    have Mt := mRd_df t2 M
    have Ft : rF lnJ S T := (df_rF t2).mono (by decide)
    have t31 : T.1 31 = 0 := by rw [t2.1 31 (by decide)]; exact h31
    have t35 : T.1 35 = bZ (hasTg r) := by rw [t2.1 35 (by decide)]; exact h35
    generalize isInh f N mb fi to = ih
    have bad : ∀ U, rF lnJ S U → U.1 31 = 0 → U.1 37 = nI to → ∃ S', gj181_137 (nI fi) (nI N) 1 (bZ ih) U = some S' ∧ rF lnJ S S' ∧ S'.1 37 = nI to ∧ rdQ S' (r, some (2, fi)) := fun U u1 u2 u3 => by
      unfold gj181_137
      rw [show (2 : Int32) = nI 2 from rfl, g166_s _ _ u2]
      exact ⟨_, rfl, u1.tr ((rF.put (by decide)).tr (rF.put (by decide))), u3, rdQ_f⟩
    have full : ∀ U, rF lnJ S U → U.1 31 = 0 → U.1 37 = nI to → ∃ S', ((g166 4 (nI fi) U).bind fun S_4 => gj181_238 (nI fi) (nI N) 1 (bZ ih) S_4) = some S' ∧ rF lnJ S S' ∧ S'.1 37 = nI to ∧ rdQ S' (r, some (4, fi)) := fun U u1 u2 u3 => by
      rw [show (4 : Int32) = nI 4 from rfl, g166_s _ _ u2]
      exact ⟨_, rfl, u1.tr ((rF.put (by decide)).tr (rF.put (by decide))), u3, rdQ_f⟩
    unfold gj181_115
    rw [t35]
    cases htg : hasTg r with
    | true =>
      rw [if_neg bZt, if_pos (show true = true from rfl)]
      exact bad T Ft t31 t3
    | false =>
      rw [if_pos bZf, if_neg (show ¬ false = true by decide)]
      cases ih with
      | true =>
        rw [if_neg bZt, if_pos (show true = true from rfl)]
        unfold gj181_146
        rw [lt_40, ld_14 (by decide), Mt.1.1]
        simp only [bS]
        by_cases h4 : r.1.length = 24
        · rw [if_pos (show nI r.1.length = 24 by rw [h4]; rfl), if_pos h4]
          exact full T Ft t31 t3
        · rw [if_neg (show ¬ _ = (24 : Int32) from nI_ne h4 (by omega) (by decide)), if_neg h4, if_neg bZt]
          obtain ⟨U, u1, u2, u3⟩ := g181_l (nI N) 1 (bZ true) (show r.1.length ≤ 23 by omega) hB (show fi < 2000 by omega) r.1.length xFuel 0 T (by omega) (pFuel _ (by omega)) Mt t31 rfl
          refine ⟨U, u1, Ft.tr (u2.mono (by decide)), by rw [u2.1.1 37 (by decide)]; exact t3, ?_⟩
          by_cases h7 : r.1.any (fun b => bSo b == 7) = true
          · rw [if_pos h7] at u3 ⊢
            exact u3
          · rw [if_neg h7] at u3 ⊢
            refine ⟨u3.1, u3.2.1, ?_, u3.2.2⟩
            rw [u2.1.1 35 (by decide), t35, htg, hasTg_opn]
            rfl
      | false =>
        obtain ⟨V, v1, v2⟩ := g172_s At t3 ht hE hfi h32
        have Av := aF_df v2 (by decide) At
        have Mv := mRd_df v2 Mt
        have Fv : rF lnJ S V := Ft.tr ((df_rF v2).mono (by decide))
        have v31 : V.1 31 = 0 := by rw [v2.1 31 (by decide)]; exact t31
        have v37 : V.1 37 = nI to := by rw [v2.1 37 (by decide)]; exact t3
        have v35 : V.1 35 = bZ (hasTg r) := by rw [v2.1 35 (by decide)]; exact t35
        rw [if_pos bZf, v1, if_neg (show ¬ false = true by decide)]
        simp only [bS]
        cases hq : pcOne f fi to with
        | none =>
          rw [if_neg (show ¬ bZ (Option.isNone none) = 0 from bZt), if_pos rfl]
          exact bad V Fv v31 v37
        | some q =>
          rw [if_pos (show bZ (Option.isNone (some q)) = 0 from bZf), if_neg (by simp)]
          unfold gj181_146
          rw [lt_40, ld_14 (by decide), Mv.1.1]
          simp only [bS]
          by_cases h4 : r.1.length = 24
          · rw [if_pos (show nI r.1.length = 24 by rw [h4]; rfl), if_pos h4]
            exact full V Fv v31 v37
          · rw [if_neg (show ¬ _ = (24 : Int32) from nI_ne h4 (by omega) (by decide)), if_neg h4, if_pos bZf]
            obtain ⟨W, w1, w2, w3, w4, w5⟩ := g173_s Mv (show r.1.length < 24 by omega) 0 0 fi
            rw [show (0 : Int32) = nI 0 from rfl, w1]
            simp only [bS]
            obtain ⟨U, u1, u2, u3, u4⟩ := g175_q (w4.aF Av) (show W.1 37 = nI to by rw [w4.1.1 37 (by decide)]; exact v37) ht hE w2 (by rw [opn_len]; omega) (by rw [opn_len]; omega) h120 (show W.1 31 = 0 by rw [w4.1.1 31 (by decide)]; exact v31) (show W.1 35 = _ by rw [w4.1.1 35 (by decide), v35, htg, hasTg_opn]; rfl) w3 (show fi ≤ to by omega)
            rw [u1]
            exact ⟨U, rfl, (Fv.tr (w4.mono (by decide))).tr u2, u3, u4⟩
end PMTX
