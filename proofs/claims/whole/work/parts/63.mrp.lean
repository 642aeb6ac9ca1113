section PMRP
variable {S : mS} {f : Nat → Nat} {N to : Nat}
theorem mRd_add {S' : mS} {r : Rd} {p : Pc} (M : mRd S 40 r) (hL : 0 < r.1.length) (e14 : S'.2 14 40 = S.2 14 40) (e15 : S'.2 15 40 = nI (r.2.length + 1)) (e19 : ∀ n, S'.2 19 n = if n = 960 + r.1.length - 1 then nI (bMa (lastB r) + 1) else S.2 19 n) (eB : ∀ k, 16 ≤ k → k ≤ 23 → k ≠ 19 → ∀ n, S'.2 k n = S.2 k n) (eP : ∀ k, 24 ≤ k → k ≤ 30 → ∀ n, n ≠ 4800 + r.2.length → S'.2 k n = S.2 k n) (np : mPc S' (4800 + r.2.length) p) : mRd S' 40 (upR r (r.2 ++ [p])) := by
  obtain ⟨⟨m14, mB⟩, m15, mP⟩ := M
  have l1 : (r.2 ++ [p]).length = r.2.length + 1 := by simp
  refine ⟨⟨?_, fun k hk => ?_⟩, ?_, fun k hk => ?_⟩
  · rw [upR_len hL, e14, m14]
  · rw [upR_len hL] at hk
    have b := mB k hk
    rw [upR_get hk, l1]
    unfold mBk at b ⊢
    rw [eB 16 (by decide) (by decide) (by decide), eB 17 (by decide) (by decide) (by decide), eB 18 (by decide) (by decide) (by decide), eB 20 (by decide) (by decide) (by decide), eB 21 (by decide) (by decide) (by decide), eB 22 (by decide) (by decide) (by decide), eB 23 (by decide) (by decide) (by decide), e19]
    by_cases h : k = r.1.length - 1
    · rw [if_pos h, if_pos (show 24 * 40 + k = 960 + r.1.length - 1 by omega), lastB_g hL, ← h]
      refine ⟨b.1, b.2.1, b.2.2.1, ?_, b.2.2.2.2.1, b.2.2.2.2.2.1, b.2.2.2.2.2.2.1, b.2.2.2.2.2.2.2⟩
      show nI (bMa (r.1.getD k bkD) + 1) = nI (bMa (r.1.getD k bkD) + (r.2.length + 1 - r.2.length))
      rw [show r.2.length + 1 - r.2.length = 1 by omega]
    · rw [if_neg h, if_neg (show ¬ 24 * 40 + k = 960 + r.1.length - 1 by omega)]
      exact b
  · show S'.2 15 40 = nI (r.2 ++ [p]).length
    rw [l1, e15]
  · have hk : k < (r.2 ++ [p]).length := hk
    rw [l1] at hk
    show mPc S' (120 * 40 + k) ((r.2 ++ [p]).getD k pcD)
    by_cases h : k = r.2.length
    · subst h
      rw [show (r.2 ++ [p]).getD r.2.length pcD = p by simp [List.getD_eq_getElem?_getD]]
      exact np
    · rw [show (r.2 ++ [p]).getD k pcD = r.2.getD k pcD by simp only [List.getD_eq_getElem?_getD]; rw [List.getElem?_append_left (by omega)]]
      have b := mP k (by omega)
      unfold mPc at b ⊢
      rw [eP 24 (by decide) (by decide) _ (by omega), eP 25 (by decide) (by decide) _ (by omega), eP 26 (by decide) (by decide) _ (by omega), eP 27 (by decide) (by decide) _ (by omega), eP 28 (by decide) (by decide) _ (by omega), eP 29 (by decide) (by decide) _ (by omega), eP 30 (by decide) (by decide) _ (by omega)]
      exact b
def kq176 (x1 : Int32) (x2 : Int32) (S : mS) : Option (Int32 × mS) := (g167 x1 S).bind fun r_8 => (if r_8.1 = 123 then (g171 x1 r_8.2).bind fun r_11 => (sSt r_11.2 24 x2 r_11.1).bind fun S_12 => (some (sPut S_12 38 (S_12.1 39))).bind fun S_14 => (sLd S_14 24 x2).bind fun v_16 => (if v_16 = 2 then (sSt S_14 29 x2 (S_14.1 42)).bind fun S_18 => (sSt S_18 30 x2 (S_18.1 43)).bind fun S_20 => gj176_208 x1 x2 S_20 else gj176_208 x1 x2 S_14) else gl176_140 xFuel x1 x2 x1 r_8.2)
theorem g176_a {r : Rd} (M : mRd S 40 r) (hL : 0 < r.1.length) (h24 : r.1.length ≤ 24) (h120 : r.2.length < 120) (i : Nat) : g176 (nI i) S = kq176 (nI i) (nI (4800 + r.2.length)) (sSet (sSet (sSet (sSet (sSet (sSet S 15 40 (nI (r.2.length + 1))) 19 (960 + r.1.length - 1) (nI (bMa (lastB r) + 1))) 25 (4800 + r.2.length) (nI i)) 28 (4800 + r.2.length) (bZ (decide (S.1 38 = nI i)))) 29 (4800 + r.2.length) 0) 30 (4800 + r.2.length) 0) := by
  obtain ⟨⟨m14, mB⟩, m15, mP⟩ := M
  have m19 : S.2 19 (960 + r.1.length - 1) = nI (bMa (lastB r)) := by
    have := (mB (r.1.length - 1) (by omega)).2.2.2.1
    rw [lastB_g hL, ← this, show 960 + r.1.length - 1 = 24 * 40 + (r.1.length - 1) by omega]
  unfold g176 g174
  simp (disch := omega) only [lt_40, lt_960, lt_4800, ld_15, st_15, ld_14, ld_19, st_19, st_25, bS, sS_ne, sS_1, m14, m15, m19, nI_add, nI_1, nI_s1]
  by_cases h : S.1 38 = nI i
  · rw [if_pos h, decide_eq_true h]
    unfold gj176_61 kq176
    simp (disch := omega) only [st_28, st_29, st_30, bS, nar1]
  · rw [if_neg h, decide_eq_false h]
    unfold gj176_61 kq176
    simp (disch := omega) only [st_28, st_29, st_30, bS, nar0]
theorem g176_w (A : aF S 12 24000 f N) (hl : S.1 37 = nI to) (ht : to ≤ N) (x1 x2 : Int32) {i : Nat} (hi : i ≤ to) : gl176_140 xFuel x1 x2 (nI i) S = gj176_184 x1 x2 (nI (sc (fun j => f j == 32 || f j == 123 || f j == 125) i (to - i))) S := by
  have hN := A.n600
  refine l_sc (fun n j => gl176_140 n x1 x2 (nI j) S) (fun j => f j == 32 || f j == 123 || f j == 125) (fun j => gj176_184 x1 x2 (nI j) S) to (fun n => ?_) (fun n j hj hp => ?_) (fun n j hj hp => ?_) (to - i) xFuel i (by omega) (pFuel _ (by omega))
  · simp (disch := omega) only [gl176_140, hl, nI_leI]
    rw [if_pos (Nat.le_refl _)]
  · have c := (A.2.2 j (by omega)).1
    simp (disch := omega) only [gl176_140, hl, nI_leI, g167_s A, bS, lt_32, lt_123, lt_125, nI_eq]
    rw [if_neg (by omega)]
    by_cases h0 : f j = 32
    · rw [if_pos h0]
    · rw [if_neg h0]
      by_cases h1 : f j = 123
      · rw [if_pos h1]
      · rw [if_neg h1, if_pos (by simpa [h0, h1] using hp)]
  · have c := (A.2.2 j (by omega)).1
    simp (disch := omega) only [gl176_140, hl, nI_leI, g167_s A, bS, lt_32, lt_123, lt_125, nI_eq, nI_1]
    simp at hp
    rw [if_neg (by omega), if_neg hp.1.1, if_neg hp.1.2, if_neg hp.2]
abbrev pcJ : List Nat := [38, 39, 40, 41, 42, 43]
theorem g176_s (A : aF S 12 24000 f N) (hl : S.1 37 = nI to) (ht : to ≤ N) (hE : f to = 10 ∨ 256 ≤ f to) {r : Rd} (M : mRd S 40 r) (hL : 0 < r.1.length) (h24 : r.1.length ≤ 24) (h120 : r.2.length < 120) {i : Nat} (hi : i < to) {q : Nat × Nat × Nat × Nat × Nat × Nat} (hq : pcOne f i to = some q) : ∃ S', g176 (nI i) S = some (nI q.2.2.2.2.2, S') ∧ mRd S' 40 (upR r (r.2 ++ [(q.1, i, q.2.1, q.2.2.1, q.2.2.2.1, q.2.2.2.2.1, decide (S.1 38 = nI i))])) ∧ S'.1 38 = nI q.2.2.2.2.2 ∧ rF pcJ S S' := by
  have hN := A.n600
  have c := (A.2.2 i (by omega)).1
  rw [g176_a M hL h24 h120 i]
  obtain ⟨S5, hS5⟩ : ∃ S5, S5 = sSet (sSet (sSet (sSet (sSet (sSet S 15 40 (nI (r.2.length + 1))) 19 (960 + r.1.length - 1) (nI (bMa (lastB r) + 1))) 25 (4800 + r.2.length) (nI i)) 28 (4800 + r.2.length) (bZ (decide (S.1 38 = nI i)))) 29 (4800 + r.2.length) 0) 30 (4800 + r.2.length) 0 := ⟨_, rfl⟩
  rw [← hS5]
  have F5 : rF pcJ S S5 := by
    rw [hS5]
    exact (((((rF.set (by decide) (by simp [uE])).tr (rF.set (by decide) (by simp [uE]; omega))).tr (rF.set (by decide) (by simp [uE]))).tr (rF.set (by decide) (by simp [uE]))).tr (rF.set (by decide) (by simp [uE]))).tr (rF.set (by decide) (by simp [uE]))
  have A5 := F5.aF A
  have l5 : S5.1 37 = nI to := by rw [hS5]; exact hl
  have g14 : S5.2 14 40 = S.2 14 40 := by rw [hS5]; simp (disch := omega) only [sS_ne]
  have g15 : S5.2 15 40 = nI (r.2.length + 1) := by rw [hS5]; simp (disch := omega) only [sS_ne, sS_eq]
  have g19 : ∀ n, S5.2 19 n = if n = 960 + r.1.length - 1 then nI (bMa (lastB r) + 1) else S.2 19 n := fun n => by
    rw [hS5]
    by_cases h : n = 960 + r.1.length - 1
    · rw [if_pos h]
      simp (disch := omega) only [sS_ne, sS_e2]
    · rw [if_neg h]
      simp (disch := omega) only [sS_ne]
  have gB : ∀ k, 16 ≤ k → k ≤ 23 → k ≠ 19 → ∀ n, S5.2 k n = S.2 k n := fun k h1 h2 h3 n => by
    rw [hS5]
    simp (disch := omega) only [sS_ne]
  have gP : ∀ k, 24 ≤ k → k ≤ 30 → ∀ n, n ≠ 4800 + r.2.length → S5.2 k n = S.2 k n := fun k h1 h2 n h3 => by
    rw [hS5]
    simp (disch := omega) only [sS_ne]
  have g25 : S5.2 25 (4800 + r.2.length) = nI i := by rw [hS5]; simp (disch := omega) only [sS_ne, sS_eq]
  have g28 : S5.2 28 (4800 + r.2.length) = bZ (decide (S.1 38 = nI i)) := by rw [hS5]; simp (disch := omega) only [sS_ne, sS_eq]
  have g29 : S5.2 29 (4800 + r.2.length) = 0 := by rw [hS5]; simp (disch := omega) only [sS_ne, sS_eq]
  have g30 : S5.2 30 (4800 + r.2.length) = 0 := by rw [hS5]; simp (disch := omega) only [sS_ne, sS_eq]
  clear hS5
  have hp := pc_le hi hE hq
  unfold kq176
  rw [g167_s A5 (by omega)]
  simp only [bS]
  by_cases h1 : f i = 123
  · rw [if_pos (by rw [h1]; rfl)]
    obtain ⟨T, t1, t2, t3⟩ := g171_s A5 l5 ht hE hi h1
    obtain ⟨b1, b2, b3, b4⟩ := t3 q hq
    have tT : ∀ k n, T.2 k n = S5.2 k n := fun k n => by rw [t2.2 k (by simp)]
    rw [t1, hq]
    have F6 : rF pcJ S T := F5.tr ((df_rF t2).mono (by decide))
    simp (disch := omega) only [bS, st_24, ld_24, pcI, sP_2, sS_eq, sS_1, lt_2, nI_eq, st_29, st_30, sP_ne, gj176_208, st_26, st_27, sP_eq]
    by_cases h2 : q.1 = 2
    · rw [if_pos h2, b3]
      refine ⟨_, rfl, mRd_add M hL ?_ ?_ (fun n => ?_) (fun k x1 x2 x3 n => ?_) (fun k x1 x2 n x3 => ?_) ⟨?_, ?_, ?_, ?_, ?_, ?_, ?_⟩, ?_, ?_⟩
      · simp (disch := omega) only [sS_ne, sP_2, tT, g14]
      · simp (disch := omega) only [sS_ne, sP_2, tT, g15]
      · simp (disch := omega) only [sS_ne, sP_2, tT, g19]
      · simp (disch := omega) only [sS_ne, sP_2, tT, gB]
      · simp (disch := omega) only [sS_ne, sP_2, tT, gP]
      · simp (disch := omega) only [sS_ne, sP_2, sS_eq]; rfl
      · simp (disch := omega) only [sS_ne, sP_2, tT, g25]; rfl
      · simp (disch := omega) only [sS_ne, sP_2, sS_eq, b1]; rfl
      · simp (disch := omega) only [sS_ne, sP_2, sS_eq, b2]; rfl
      · simp (disch := omega) only [sS_ne, sP_2, tT, g28]; rfl
      · simp (disch := omega) only [sS_ne, sP_2, sS_eq, (b4 h2).1]; rfl
      · simp (disch := omega) only [sS_ne, sP_2, sS_eq, (b4 h2).2]; rfl
      · simp only [sS_1, sP_eq]
      · exact F6.tr ((((((rF.set (by decide) (by simp [uE])).tr (rF.put (by decide))).tr (rF.set (by decide) (by simp [uE]))).tr (rF.set (by decide) (by simp [uE]))).tr (rF.set (by decide) (by simp [uE]))).tr (rF.set (by decide) (by simp [uE])))
    · rw [if_neg h2, b3]
      obtain ⟨z1, z2⟩ := hp.2.2.2.2.2.2.2.2.2.2.1 h2
      refine ⟨_, rfl, mRd_add M hL ?_ ?_ (fun n => ?_) (fun k x1 x2 x3 n => ?_) (fun k x1 x2 n x3 => ?_) ⟨?_, ?_, ?_, ?_, ?_, ?_, ?_⟩, ?_, ?_⟩
      · simp (disch := omega) only [sS_ne, sP_2, tT, g14]
      · simp (disch := omega) only [sS_ne, sP_2, tT, g15]
      · simp (disch := omega) only [sS_ne, sP_2, tT, g19]
      · simp (disch := omega) only [sS_ne, sP_2, tT, gB]
      · simp (disch := omega) only [sS_ne, sP_2, tT, gP]
      · simp (disch := omega) only [sS_ne, sP_2, sS_eq]; rfl
      · simp (disch := omega) only [sS_ne, sP_2, tT, g25]; rfl
      · simp (disch := omega) only [sS_ne, sP_2, sS_eq, b1]; rfl
      · simp (disch := omega) only [sS_ne, sP_2, sS_eq, b2]; rfl
      · simp (disch := omega) only [sS_ne, sP_2, tT, g28]; rfl
      · simp (disch := omega) only [sS_ne, sP_2, tT, g29]
        show (0 : Int32) = nI q.2.2.2.1
        rw [z1]; rfl
      · simp (disch := omega) only [sS_ne, sP_2, tT, g30]
        show (0 : Int32) = nI (q.2.2.2.2.1 - q.2.2.2.1)
        rw [z1, z2]; rfl
      · simp only [sS_1, sP_eq]
      · exact F6.tr ((((rF.set (by decide) (by simp [uE])).tr (rF.put (by decide))).tr (rF.set (by decide) (by simp [uE]))).tr (rF.set (by decide) (by simp [uE])))
  · have h32 : ¬ (f i = 32 ∨ f i = 125) := fun h9 => by
      rw [pc_w1 hi h1, if_pos h9] at hq
      cases hq
    rw [pc_w1 hi h1, if_neg h32] at hq
    have w1 := sc_ge (fun j => f j == 32 || f j == 123 || f j == 125) (to - i) i
    rw [if_neg (show ¬ _ = (123 : Int32) from nI_ne h1 (by omega) (by decide)), g176_w A5 l5 ht (nI i) (nI (4800 + r.2.length)) (by omega)]
    generalize sc (fun j => f j == 32 || f j == 123 || f j == 125) i (to - i) = w at w1 hq ⊢
    cases hq
    unfold gj176_184 gj176_208
    simp (disch := omega) only [bS, st_24, pk_sub, st_26, st_27, sP_eq, sP_ne, sS_1]
    refine ⟨_, rfl, mRd_add M hL ?_ ?_ (fun n => ?_) (fun k x1 x2 x3 n => ?_) (fun k x1 x2 n x3 => ?_) ⟨?_, ?_, ?_, ?_, ?_, ?_, ?_⟩, ?_, ?_⟩
    · simp (disch := omega) only [sS_ne, sP_2, g14]
    · simp (disch := omega) only [sS_ne, sP_2, g15]
    · simp (disch := omega) only [sS_ne, sP_2, g19]
    · simp (disch := omega) only [sS_ne, sP_2, gB]
    · simp (disch := omega) only [sS_ne, sP_2, gP]
    · simp (disch := omega) only [sS_ne, sP_2, sS_eq]; rfl
    · simp (disch := omega) only [sS_ne, sP_2, g25]; rfl
    · simp (disch := omega) only [sS_ne, sP_2, sS_eq]; rfl
    · simp (disch := omega) only [sS_ne, sP_2, sS_eq]; rfl
    · simp (disch := omega) only [sS_ne, sP_2, g28]; rfl
    · simp (disch := omega) only [sS_ne, sP_2, g29]; rfl
    · simp (disch := omega) only [sS_ne, sP_2, g30]; rfl
    · simp only [sS_1, sP_eq]
    · exact F5.tr ((((((rF.set (by decide) (by simp [uE])).tr (rF.put (by decide))).tr (rF.put (by decide))).tr (rF.put (by decide))).tr (rF.set (by decide) (by simp [uE]))).tr (rF.set (by decide) (by simp [uE])))
theorem g166_s (c x : Int32) (h : S.1 31 = 0) : g166 c x S = some (sPut (sPut S 31 c) 32 x) := by
  unfold g166
  rw [if_pos h]
  rfl
abbrev rpJ : List Nat := [31, 32, 38, 39, 40, 41, 42, 43]
/-- the state behind a reading: blocks and pieces, or a fault -/
def rdO (S' : mS) (o : Rd × Option (Nat × Nat)) : Prop := match o.2 with
  | none => mRd S' 40 o.1 ∧ S'.1 31 = 0
  | some q => S'.1 31 = nI q.1 ∧ S'.1 32 = nI q.2
theorem g175_l (hE : f to = 10 ∨ 256 ≤ f to) (ht : to ≤ N) (x1 : Int32) {r : Rd} (hL : 0 < r.1.length) (h24 : r.1.length ≤ 24) : ∀ m n i (ps : List Pc) (S : mS), to - i < m → m + 1 < n → i ≤ to → (i < to → f i ≠ 32) → aF S 12 24000 f N → S.1 37 = nI to → mRd S 40 (upR r ps) → S.1 31 = 0 → r.2.length ≤ ps.length → ps.length ≤ 120 → ∃ S', gl175_6 n x1 (nI i) S = some S' ∧ rF rpJ S S' ∧ S'.1 38 = -1 ∧ rdO S' (upR r (pcs f to m i (decide (S.1 38 = nI i)) ps).1, (pcs f to m i (decide (S.1 38 = nI i)) ps).2) := by
  intro m
  induction m with
  | zero => intro n i ps S h; omega
  | succ m ih =>
    intro n i ps S hm hn hi hb A hl M h31 hp1 hp2
    have hN := A.n600
    obtain ⟨n, rfl⟩ : ∃ k, n = k + 1 := ⟨n - 1, by omega⟩
    rw [gl175_6, pcs]
    dsimp only
    rw [hl]
    by_cases h1 : to ≤ i
    · rw [if_pos (nI_le h1 (by omega)), if_pos h1]
      exact ⟨_, rfl, rF.put (by decide), sP_eq, M, h31⟩
    · rw [if_neg (nI_ge (by omega) (by omega)), if_neg h1, if_pos h31]
      obtain ⟨T, t1, t2⟩ := g172_s A hl ht hE (show i < to by omega) (hb (by omega))
      have At := aF_df t2 (by decide) A
      have lt : T.1 37 = nI to := by rw [t2.1 37 (by decide)]; exact hl
      have t31 : T.1 31 = 0 := by rw [t2.1 31 (by decide)]; exact h31
      have t38 : T.1 38 = S.1 38 := t2.1 38 (by decide)
      have Mt := mRd_df t2 M
      have Ft : rF rpJ S T := (df_rF t2).mono (by decide)
      rw [t1]
      simp only [bS, bZ_0]
      -- the end with a fault
      have fin : ∀ (n : Nat) (c : Nat), 0 < n → 0 < c → c < 10 → ∃ S', gl175_6 n x1 (nI i) (sPut (sPut T 31 (nI c)) 32 (nI i)) = some S' ∧ rF rpJ S S' ∧ S'.1 38 = -1 ∧ S'.1 31 = nI c ∧ S'.1 32 = nI i := by
        intro n c hn hc hc2
        obtain ⟨n, rfl⟩ : ∃ k, n = k + 1 := ⟨n - 1, by omega⟩
        rw [gl175_6]
        dsimp only
        rw [show (sPut (sPut T 31 (nI c)) 32 (nI i)).1 37 = nI to from lt, if_neg (nI_ge (by omega) (by omega)), if_neg (show ¬ (sPut (sPut T 31 (nI c)) 32 (nI i)).1 31 = 0 from nI_ne0 hc (by omega))]
        exact ⟨_, rfl, Ft.tr (((rF.put (by decide)).tr (rF.put (by decide))).tr (rF.put (by decide))), rfl, rfl, rfl⟩
      cases hq : pcOne f i to with
      | none =>
        rw [if_neg (by simp), show (2 : Int32) = nI 2 from rfl, g166_s _ _ t31]
        exact fin n 2 (by omega) (by decide) (by decide)
      | some q =>
        have hp := pc_le (show i < to by omega) hE hq
        have e15 : T.2 15 40 = nI ps.length := Mt.2.1
        rw [if_pos (by simp), lt_40, ld_15 (by decide), e15]
        simp only [bS]
        by_cases h120 : ps.length = 120
        · rw [if_pos (by rw [h120]; rfl), show (4 : Int32) = nI 4 from rfl, g166_s _ _ t31]
          rw [if_pos h120]
          exact fin n 4 (by omega) (by decide) (by decide)
        · rw [if_neg (show ¬ _ = (120 : Int32) from nI_ne h120 (by omega) (by decide))]
          rw [if_neg h120]
          have hL2 : 0 < (upR r ps).1.length := by rw [upR_len hL]; exact hL
          obtain ⟨U, u1, u2, u3, u4⟩ := g176_s At lt ht hE Mt hL2 (by rw [upR_len hL]; exact h24) (show ps.length < 120 by omega) (show i < to by omega) hq
          rw [u1]
          have Au := u4.aF At
          have lu : U.1 37 = nI to := by rw [u4.1.1 37 (by decide)]; exact lt
          simp only [bS]
          rw [g169_s Au lu ht (by omega)]
          simp only [bS]
          have s1 := sc_ge (fun j => !(f j == 32)) (to - q.2.2.2.2.2) q.2.2.2.2.2
          have s2 := sc_at (fun j => !(f j == 32)) (to - q.2.2.2.2.2) q.2.2.2.2.2
          rw [show sc (fun j => !(f j == 32)) q.2.2.2.2.2 (to - q.2.2.2.2.2) = skp f q.2.2.2.2.2 to from rfl] at s1 s2
          have u31 : U.1 31 = 0 := by rw [u4.1.1 31 (by decide)]; exact t31
          have e5 : (upR r ps).2 = ps := rfl
          rw [e5, upR_up hL hp1 (by simp)] at u2
          obtain ⟨V, v1, v2, v3, v4⟩ := ih n (skp f q.2.2.2.2.2 to) _ U (by omega) (by omega) (by omega) (fun h9 => by have := s2 (by omega); simpa using this) Au lu u2 u31 (by simp; omega) (by simp; omega)
          refine ⟨V, v1, (Ft.tr (u4.mono (by decide))).tr v2, v3, ?_⟩
          rw [u3, t38, show decide (nI q.2.2.2.2.2 = nI (skp f q.2.2.2.2.2 to)) = (skp f q.2.2.2.2.2 to == q.2.2.2.2.2) from by
            rw [Bool.eq_iff_iff, decide_eq_true_eq, beq_iff_eq, nI_eq (by omega) (by omega)]
            omega] at v4
          exact v4
theorem g175_s (A : aF S 12 24000 f N) (hl : S.1 37 = nI to) (ht : to ≤ N) (hE : f to = 10 ∨ 256 ≤ f to) {r : Rd} (M : mRd S 40 r) (hL : 0 < r.1.length) (h24 : r.1.length ≤ 24) (h120 : r.2.length ≤ 120) (h31 : S.1 31 = 0) (h38 : S.1 38 = -1) {i : Nat} (hi : i ≤ to) : ∃ S', g175 (nI i) S = some S' ∧ rF rpJ S S' ∧ S'.1 38 = -1 ∧ rdO S' (rdPcs f to i r) := by
  have hN := A.n600
  have s1 := sc_ge (fun j => !(f j == 32)) (to - i) i
  have s2 := sc_at (fun j => !(f j == 32)) (to - i) i
  rw [show sc (fun j => !(f j == 32)) i (to - i) = skp f i to from rfl] at s1 s2
  unfold g175
  rw [g169_s A hl ht hi]
  simp only [bS]
  obtain ⟨V, v1, v2, v3, v4⟩ := g175_l hE ht (nI i) hL h24 700 xFuel (skp f i to) r.2 S (by omega) (by decide) (by omega) (fun h9 => by have := s2 (by omega); simpa using this) A hl (by rw [upR_0 hL]; exact M) h31 (Nat.le_refl _) h120
  refine ⟨V, v1, v2, v3, ?_⟩
  rw [h38, show decide ((-1 : Int32) = nI (skp f i to)) = false from decide_eq_false (by rw [m1_nI (by omega)]; exact id)] at v4
  exact v4
end PMRP
