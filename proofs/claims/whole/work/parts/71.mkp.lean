section PMKP
variable {S : mS} {bs : List Nat} {r : Rd}
/-- an entry's comment alone changes -/
def kF (e : Nat) (S S' : mS) : Prop := df [] [12, 13, 14, 15, 16, 17, 18, 19, 20, 21, 22, 23, 24, 25, 26, 27, 28, 29, 30] S S' ∧ ∀ x, x ≠ e → ag x S S'
theorem kF.rfl' {e : Nat} : kF e S S := ⟨df.rfl', fun _ _ => ag.rfl'⟩
theorem kF.tr {e : Nat} {S S1 S2 : mS} (a : kF e S S1) (b : kF e S1 S2) : kF e S S2 := ⟨a.1.tr b.1, fun x hx => (a.2 x hx).tr (b.2 x hx)⟩
theorem kF.set {e k i : Nat} {S : mS} {v : Int32} (h : k ∈ [12, 13, 14, 15, 16, 17, 18, 19, 20, 21, 22, 23, 24, 25, 26, 27, 28, 29, 30]) (h1 : uE k * e ≤ i) (h2 : i < uE k * (e + 1)) : kF e S (sSet S k i v) := by
  refine ⟨df.set h, fun x hx => ag.set ?_⟩
  rcases Nat.lt_or_gt_of_ne hx with h3 | h3
  · exact Or.inr (Nat.le_trans (Nat.mul_le_mul_left _ h3) h1)
  · exact Or.inl (Nat.lt_of_lt_of_le h2 (Nat.mul_le_mul_left _ h3))
theorem mRd_kF {e : Nat} {S S' : mS} (he : e < 40) (M : mRd S 40 r) (h1 : r.1.length ≤ 24) (h2 : r.2.length ≤ 120) (F : kF e S S') : mRd S' 40 r := mRd_ag M h1 h2 (F.2 40 (by omega))
theorem aF_kF {e N : Nat} {f : Nat → Nat} {S S' : mS} (he : e < 40) (A : aF S 12 24000 f N) (F : kF e S S') : aF S' 12 24000 f N := by
  have hN := A.n600
  refine aF_ag A fun i hi => F.2 40 (by omega) 12 _ ?_ ?_
  · show 600 * 40 ≤ 24000 + i
    omega
  · show 24000 + i < 600 * (40 + 1)
    omega
theorem keep_t {e : Nat} (he : e < 40) (A : aF S 12 24000 (tx bs) bs.length) : ∃ S', gl188_35 xFuel (nI e) (nI bs.length) (nI 0) S = gl188_70 xFuel (nI e) (nI bs.length) 0 S' ∧ kF e S S' ∧ df [] [12] S S' ∧ aF S' 12 (600 * e) (tx bs) bs.length := by
  have hN := A.n600
  have key := l_fl (fun n i s => gl188_35 n (nI e) (nI bs.length) (nI i) s) (fun i s => sSet s 12 (600 * e + i) (nI (tx bs i))) (fun s => gl188_70 xFuel (nI e) (nI bs.length) 0 s) (fun i s => kF e S s ∧ df [] [12] S s ∧ ∀ j, j < i → s.2 12 (600 * e + j) = nI (tx bs j)) bs.length (fun n s hs => ?_) (fun n i s hi hs => ?_) bs.length xFuel 0 S (by omega) (pFuel _ (by omega)) ⟨kF.rfl', df.rfl', fun j hj => absurd hj (Nat.not_lt_zero _)⟩
  · refine ⟨_, key.1, key.2.1, key.2.2.1, ?_, A.2.1, fun i hi => ⟨(A.2.2 i hi).1, key.2.2.2 i hi⟩⟩
    rw [show mSz.getD 12 0 = 24600 from rfl]
    omega
  · simp only [gl188_35]
    rw [if_pos (nI_le (Nat.le_refl _) (by omega))]
  · obtain ⟨h1, h2, h3⟩ := hs
    constructor
    · have A2 := aF_kF he A h1
      simp only [gl188_35]
      rw [if_neg (nI_ge hi (by omega)), lt_24000, nI_add, A2.ld hi, lt_600, pk_mul, nI_add]
      simp only [bS]
      rw [st_12 (by omega)]
      simp only [bS, nI_1]
    · refine ⟨h1.tr (kF.set (by decide) ?_ ?_), h2.tr (df.set (by decide)), fun j hj => ?_⟩
      · show 600 * e ≤ _
        omega
      · show _ < 600 * (e + 1)
        omega
      · by_cases h : j = i
        · rw [sS_e2 (by omega), h]
        · rw [sS_ne (by omega)]
          exact h3 j (by omega)
def bkW (s : mS) (i : Nat) (b : Bk) : mS := sSet (sSet (sSet (sSet (sSet (sSet (sSet (sSet s 16 i (nI (bSo b))) 17 i (nI (bDe b))) 18 i (nI (bFi b))) 19 i (nI (bMa b))) 20 i (nI (bPl b))) 21 i (nI (bNf b))) 22 i (nI (bNt b - bNf b))) 23 i (bZ (bJo b))
theorem keep_b {e : Nat} (he : e < 40) (M : mRd S 40 r) (h24 : r.1.length ≤ 24) (h120 : r.2.length ≤ 120) (h14 : S.2 14 e = nI r.1.length) (x2 : Int32) : ∃ S', gl188_70 xFuel (nI e) x2 (nI 0) S = gl188_215 xFuel (nI e) x2 0 S' ∧ kF e S S' ∧ df [] [16, 17, 18, 19, 20, 21, 22, 23] S S' ∧ ∀ k, k < r.1.length → mBk S' (24 * e + k) (r.1.getD k bkD) := by
  have key := l_fl (fun n i s => gl188_70 n (nI e) x2 (nI i) s) (fun i s => bkW s (24 * e + i) (r.1.getD i bkD)) (fun s => gl188_215 xFuel (nI e) x2 0 s) (fun i s => kF e S s ∧ df [] [16, 17, 18, 19, 20, 21, 22, 23] S s ∧ ∀ j, j < i → mBk s (24 * e + j) (r.1.getD j bkD)) r.1.length (fun n s hs => ?_) (fun n i s hi hs => ?_) r.1.length xFuel 0 S (by omega) (pFuel _ (by omega)) ⟨kF.rfl', df.rfl', fun j hj => absurd hj (Nat.not_lt_zero _)⟩
  · exact ⟨_, key.1, key.2.1, key.2.2.1, key.2.2.2⟩
  · have e14 : s.2 14 e = nI r.1.length := by rw [hs.2.1.2 14 (by decide)]; exact h14
    simp only [gl188_70]
    rw [ld_14 (by omega), e14]
    simp only [bS]
    rw [if_pos (nI_le (Nat.le_refl _) (by omega))]
  · obtain ⟨h1, h2, h3⟩ := hs
    constructor
    · have e14 : s.2 14 e = nI r.1.length := by rw [h2.2 14 (by decide)]; exact h14
      have m := (mRd_kF he M h24 h120 h1).1.2 i hi
      rw [show 24 * 40 + i = 960 + i by omega] at m
      obtain ⟨m1, m2, m3, m4, m5, m6, m7, m8⟩ := m
      simp only [gl188_70]
      rw [ld_14 (by omega), e14]
      simp only [bS]
      rw [if_neg (nI_ge hi (by omega))]
      simp (disch := omega) only [lt_960, lt_24, pk_mul, nI_add, ld_16, ld_17, ld_18, ld_19, ld_20, ld_21, ld_22, ld_23, st_16, st_17, st_18, st_19, st_20, st_21, st_22, st_23, bS, sS_ne, m1, m2, m3, m4, m5, m6, m7, m8, bZ_n, nI_1]
      rfl
    · refine ⟨h1.tr ?_, h2.tr ?_, fun j hj => ?_⟩
      · unfold bkW
        refine (((((((kF.set (by decide) ?_ ?_).tr (kF.set (by decide) ?_ ?_)).tr (kF.set (by decide) ?_ ?_)).tr (kF.set (by decide) ?_ ?_)).tr (kF.set (by decide) ?_ ?_)).tr (kF.set (by decide) ?_ ?_)).tr (kF.set (by decide) ?_ ?_)).tr (kF.set (by decide) ?_ ?_)
        all_goals (simp [uE] <;> omega)
      · unfold bkW
        exact (((((((df.set (by decide)).tr (df.set (by decide))).tr (df.set (by decide))).tr (df.set (by decide))).tr (df.set (by decide))).tr (df.set (by decide))).tr (df.set (by decide))).tr (df.set (by decide))
      · unfold bkW mBk
        by_cases h : j = i
        · subst h
          simp (disch := omega) only [sS_ne, sS_eq]
          exact ⟨trivial, trivial, trivial, trivial, trivial, trivial, trivial, trivial⟩
        · simp (disch := omega) only [sS_ne]
          exact h3 j (by omega)
def pcW (s : mS) (i : Nat) (b : Pc) : mS := sSet (sSet (sSet (sSet (sSet (sSet (sSet s 24 i (nI (pSo b))) 25 i (nI (pPl b))) 26 i (nI (pSf b))) 27 i (nI (pSt b - pSf b))) 28 i (bZ (pGl b))) 29 i (nI (pNf b))) 30 i (nI (pNt b - pNf b))
theorem keep_p {e : Nat} (he : e < 40) (M : mRd S 40 r) (h24 : r.1.length ≤ 24) (h120 : r.2.length ≤ 120) (h15 : S.2 15 e = nI r.2.length) (x2 : Int32) : ∃ S', gl188_215 xFuel (nI e) x2 (nI 0) S = some S' ∧ kF e S S' ∧ df [] [24, 25, 26, 27, 28, 29, 30] S S' ∧ ∀ k, k < r.2.length → mPc S' (120 * e + k) (r.2.getD k pcD) := by
  have key := l_fl (fun n i s => gl188_215 n (nI e) x2 (nI i) s) (fun i s => pcW s (120 * e + i) (r.2.getD i pcD)) (fun s => some s) (fun i s => kF e S s ∧ df [] [24, 25, 26, 27, 28, 29, 30] S s ∧ ∀ j, j < i → mPc s (120 * e + j) (r.2.getD j pcD)) r.2.length (fun n s hs => ?_) (fun n i s hi hs => ?_) r.2.length xFuel 0 S (by omega) (pFuel _ (by omega)) ⟨kF.rfl', df.rfl', fun j hj => absurd hj (Nat.not_lt_zero _)⟩
  · exact ⟨_, key.1, key.2.1, key.2.2.1, key.2.2.2⟩
  · have e15 : s.2 15 e = nI r.2.length := by rw [hs.2.1.2 15 (by decide)]; exact h15
    simp only [gl188_215]
    rw [ld_15 (by omega), e15]
    simp only [bS]
    rw [if_pos (nI_le (Nat.le_refl _) (by omega))]
  · obtain ⟨h1, h2, h3⟩ := hs
    constructor
    · have e15 : s.2 15 e = nI r.2.length := by rw [h2.2 15 (by decide)]; exact h15
      have m := (mRd_kF he M h24 h120 h1).2.2 i hi
      rw [show 120 * 40 + i = 4800 + i by omega] at m
      obtain ⟨m1, m2, m3, m4, m5, m6, m7⟩ := m
      simp only [gl188_215]
      rw [ld_15 (by omega), e15]
      simp only [bS]
      rw [if_neg (nI_ge hi (by omega))]
      simp (disch := omega) only [lt_4800, lt_120, pk_mul, nI_add, ld_24, ld_25, ld_26, ld_27, ld_28, ld_29, ld_30, st_24, st_25, st_26, st_27, st_28, st_29, st_30, bS, sS_ne, m1, m2, m3, m4, m5, m6, m7, bZ_n, nI_1]
      rfl
    · refine ⟨h1.tr ?_, h2.tr ?_, fun j hj => ?_⟩
      · unfold pcW
        refine ((((((kF.set (by decide) ?_ ?_).tr (kF.set (by decide) ?_ ?_)).tr (kF.set (by decide) ?_ ?_)).tr (kF.set (by decide) ?_ ?_)).tr (kF.set (by decide) ?_ ?_)).tr (kF.set (by decide) ?_ ?_)).tr (kF.set (by decide) ?_ ?_)
        all_goals (simp [uE] <;> omega)
      · unfold pcW
        exact ((((((df.set (by decide)).tr (df.set (by decide))).tr (df.set (by decide))).tr (df.set (by decide))).tr (df.set (by decide))).tr (df.set (by decide))).tr (df.set (by decide))
      · unfold pcW mPc
        by_cases h : j = i
        · subst h
          simp (disch := omega) only [sS_ne, sS_eq]
          exact ⟨trivial, trivial, trivial, trivial, trivial, trivial, trivial⟩
        · simp (disch := omega) only [sS_ne]
          exact h3 j (by omega)
theorem mBk_df {J K : List Nat} {S' : mS} {i : Nat} {b : Bk} (D : df J K S S') (h : 16 ∉ K ∧ 17 ∉ K ∧ 18 ∉ K ∧ 19 ∉ K ∧ 20 ∉ K ∧ 21 ∉ K ∧ 22 ∉ K ∧ 23 ∉ K) (M : mBk S i b) : mBk S' i b := by
  obtain ⟨h1, h2, h3, h4, h5, h6, h7, h8⟩ := h
  unfold mBk at M ⊢
  rw [D.2 16 h1, D.2 17 h2, D.2 18 h3, D.2 19 h4, D.2 20 h5, D.2 21 h6, D.2 22 h7, D.2 23 h8]
  exact M
/-- keep -/
theorem g188_s {e : Nat} (he : e < 40) (A : aF S 12 24000 (tx bs) bs.length) (M : mRd S 40 r) (h24 : r.1.length ≤ 24) (h120 : r.2.length ≤ 120) : ∃ S', g188 (nI e) (nI bs.length) S = some S' ∧ kF e S S' ∧ mCm S' e (bs, r) := by
  unfold g188
  have e15 := M.2.1
  simp (disch := omega) only [st_13, lt_40, ld_14, ld_15, st_14, st_15, bS, sS_ne, M.1.1, e15]
  obtain ⟨T, hT⟩ : ∃ T, T = sSet (sSet (sSet S 13 e (nI bs.length)) 14 e (nI r.1.length)) 15 e (nI r.2.length) := ⟨_, rfl⟩
  rw [← hT]
  have F1 : kF e S T := by
    rw [hT]
    refine ((kF.set (by decide) ?_ ?_).tr (kF.set (by decide) ?_ ?_)).tr (kF.set (by decide) ?_ ?_)
    all_goals (simp [uE])
  have t13 : T.2 13 e = nI bs.length := by rw [hT]; simp (disch := omega) only [sS_ne, sS_eq]
  have t14 : T.2 14 e = nI r.1.length := by rw [hT]; simp (disch := omega) only [sS_ne, sS_eq]
  have t15 : T.2 15 e = nI r.2.length := by rw [hT]; simp (disch := omega) only [sS_eq]
  clear hT
  obtain ⟨U, u1, u2, u3, u4⟩ := keep_t he (aF_kF he A F1)
  obtain ⟨V, v1, v2, v3, v4⟩ := keep_b (r := r) he (mRd_kF he M h24 h120 (F1.tr u2)) h24 h120 (by rw [u3.2 14 (by decide)]; exact t14) (nI bs.length)
  obtain ⟨W, w1, w2, w3, w4⟩ := keep_p (r := r) he (mRd_kF he M h24 h120 ((F1.tr u2).tr v2)) h24 h120 (by rw [v3.2 15 (by decide), u3.2 15 (by decide)]; exact t15) (nI bs.length)
  rw [show (0 : Int32) = nI 0 from rfl, u1, show (0 : Int32) = nI 0 from rfl, v1, show (0 : Int32) = nI 0 from rfl, w1]
  refine ⟨W, rfl, ((F1.tr u2).tr v2).tr w2, ?_, ?_, ⟨?_, fun k hk => mBk_df w3 (by decide) (v4 k hk)⟩, ?_, w4⟩
  · rw [w3.2 13 (by decide), v3.2 13 (by decide), u3.2 13 (by decide)]
    exact t13
  · exact aF_df w3 (by decide) (aF_df v3 (by decide) u4)
  · rw [w3.2 14 (by decide), v3.2 14 (by decide), u3.2 14 (by decide)]
    exact t14
  · rw [w3.2 15 (by decide), v3.2 15 (by decide), u3.2 15 (by decide)]
    exact t15
end PMKP
