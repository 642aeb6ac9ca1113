section PMTG
variable {S : mS} {f : Nat → Nat} {N to : Nat} {r : Rd} {bs : List Nat}
theorem sc_s {p : Nat → Bool} {i e : Nat} (h : p i = false) (hi : i < e) : sc p i (e - i) = sc p (i + 1) (e - (i + 1)) := by
  rw [show e - i = (e - (i + 1)) + 1 by omega]
  rw [sc, if_neg (by rw [h]; decide)]
theorem g183_s (A : aF S 12 24000 f N) (hl : S.1 37 = nI to) (ht : to ≤ N) (hE : f to = 10 ∨ 256 ≤ f to) {fi e : Nat} (h1 : fi + 1 ≤ e) (h2 : e ≤ to) : g183 (nI fi) (nI e) S = some (if tgSo f (fi + 1) e = 0 then -1 else nI (tgSo f (fi + 1) e), S) := by
  have hN := A.n600
  have x2 : ∃ n, n ≤ 600 ∧ (nI e - nI fi) - 1 = nI n ∧ n = e - (fi + 1) := ⟨e - (fi + 1), by omega, by rw [pk_sub (by omega), nI_s1 (by omega)]; congr 1, rfl⟩
  obtain ⟨n, n1, n2, n3⟩ := x2
  have a1 : nI fi + 1 = nI (fi + 1) := nI_1 fi
  have E2 : g168 (nI (fi + 1)) 482671223149 5 S = some (bZ (isW f (fi + 1) (wTag 2)), S) := g168_w (w := wTag 2) A hl ht hE lw_2 (by omega)
  have E3 : g168 (nI (fi + 1)) 125780071117422 6 S = some (bZ (isW f (fi + 1) (wTag 3)), S) := g168_w (w := wTag 3) A hl ht hE lw_3 (by omega)
  have E4 : g168 (nI (fi + 1)) 127991945328499 6 S = some (bZ (isW f (fi + 1) (wTag 4)), S) := g168_w (w := wTag 4) A hl ht hE lw_4 (by omega)
  have E5 : g168 (nI (fi + 1)) 7562597 3 S = some (bZ (isW f (fi + 1) (wTag 5)), S) := g168_w (w := wTag 5) A hl ht hE lw_5 (by omega)
  have E6 : g168 (nI (fi + 1)) 495690081125 5 S = some (bZ (isW f (fi + 1) (wTag 6)), S) := g168_w (w := wTag 6) A hl ht hE lw_6 (by omega)
  have X1 : isW f (fi + 1) (wTag 2) = true → isW f (fi + 1) (wTag 6) = false := fun h => by
    have c1 : f (fi + 1) = 112 := by simp [wTag, isW] at h; exact h.1
    exact isW_hd (by omega)
  have X2 : isW f (fi + 1) (wTag 3) = true → isW f (fi + 1) (wTag 4) = false := fun h => by
    have c1 : f (fi + 1) = 114 := by simp [wTag, isW] at h; exact h.1
    exact isW_hd (by omega)
  unfold tgSo
  rw [← n3]
  have q5 : (nI n = 5) = (n = 5) := propext (nI_eq (b := 5) (by omega) (by decide))
  have q6 : (nI n = 6) = (n = 6) := propext (nI_eq (b := 6) (by omega) (by decide))
  have q3 : (nI n = 3) = (n = 3) := propext (nI_eq (b := 3) (by omega) (by decide))
  generalize isW f (fi + 1) (wTag 2) = b2 at X1 E2
  generalize isW f (fi + 1) (wTag 3) = b3 at X2 E3
  generalize isW f (fi + 1) (wTag 4) = b4 at X2 E4
  generalize isW f (fi + 1) (wTag 5) = b5 at E5
  generalize isW f (fi + 1) (wTag 6) = b6 at X1 E6
  simp only [g183, gj183_32, gj183_34, gj183_61, gj183_63, gj183_90, gj183_92, gj183_117, gj183_119, gj183_145, gj183_147, n2, a1, E2, E3, E4, E5, E6, bS, bZ_0, q5, q6, q3]
  by_cases h5 : n = 5
  · subst h5
    cases b2 with
    | true =>
      have := X1 rfl
      subst this
      simp
      rfl
    | false => cases b6 <;> simp
               rfl
  · by_cases h6 : n = 6
    · subst h6
      cases b3 with
      | true =>
        have := X2 rfl
        subst this
        simp
        rfl
      | false => cases b4 <;> simp
                 rfl
    · by_cases h3 : n = 3
      · subst h3
        cases b5 <;> simp
        rfl
      · simp [h5, h6, h3]
theorem g184_l (M : mRd S 40 r) (h24 : r.1.length ≤ 24) (hB : ∀ b ∈ r.1, bSo b ≤ 7 ∧ bDe b ≤ 2) {so : Nat} (hso : so ≤ 7) : ∀ k n i, i + k = r.1.length → k < n → gl184_4 n (nI so) (bZ ((r.1.take i).any fun b => bSo b == so)) (nI i) S = some (bZ (r.1.any fun b => bSo b == so), S) := by
  intro k
  induction k with
  | zero =>
    intro n i hi hn
    obtain ⟨n, rfl⟩ : ∃ m, n = m + 1 := ⟨n - 1, by omega⟩
    rw [gl184_4]
    dsimp only
    rw [lt_40, ld_14 (by decide), M.1.1]
    simp only [bS]
    rw [if_pos (nI_le (by omega) (by omega)), if_pos bZ_p, List.take_of_length_le (by omega)]
  | succ k ih =>
    intro n i hi hn
    obtain ⟨n, rfl⟩ : ∃ m, n = m + 1 := ⟨n - 1, by omega⟩
    have m16 : S.2 16 (960 + i) = nI (bSo (r.1.getD i bkD)) := (M.1.2 i (by omega)).1
    have hx := (hB _ (gD_mem (d := bkD) (show i < r.1.length by omega))).1
    have := ih n (i + 1) (by omega) (by omega)
    rw [any_take (by omega)] at this
    rw [gl184_4]
    dsimp only
    rw [lt_40, ld_14 (by decide), M.1.1]
    simp only [bS]
    rw [if_neg (nI_ge (by omega) (by omega)), lt_960, nI_add, ld_16 (by omega), m16]
    simp only [bS, bZ_0, gj184_33, gj184_38, nI_1]
    rw [← this]
    cases (r.1.take i).any fun b => bSo b == so with
    | true =>
      rw [if_neg (show ¬ true = false by decide), Bool.true_or, bZ_t]
    | false =>
      rw [if_pos (Eq.refl false), Bool.false_or]
      by_cases h : bSo (r.1.getD i bkD) = so
      · rw [if_pos (by rw [h]), show (bSo (r.1.getD i bkD) == so) = true from by simpa using h, bZ_t]
      · rw [if_neg (nI_ne h (by omega) (by omega)), show (bSo (r.1.getD i bkD) == so) = false from by simpa using h, bZ_f]
theorem g184_s (M : mRd S 40 r) (h24 : r.1.length ≤ 24) (hB : ∀ b ∈ r.1, bSo b ≤ 7 ∧ bDe b ≤ 2) {so : Nat} (hso : so ≤ 7) : g184 (nI so) S = some (bZ (r.1.any fun b => bSo b == so), S) := g184_l M h24 hB hso r.1.length xFuel 0 (by omega) (pFuel _ (by omega))
theorem cut_al {a z c e : Nat} (hz : z ≤ bs.length) (he : e ≤ bs.length) : decide (cut bs c e = cut bs a z) = (decide (e - c = z - a) && al (fun i => tx bs (c + i) == tx bs (a + i)) 0 (z - a)) := by
  rw [Bool.eq_iff_iff, decide_eq_true_eq, Bool.and_eq_true, decide_eq_true_eq, al_iff, tx_ext, cut_len hz, cut_len he]
  constructor
  · rintro ⟨h1, h2⟩
    refine ⟨h1, fun j _ hj => ?_⟩
    have := h2 j (by omega)
    rw [cut_tx (by omega), cut_tx (by omega)] at this
    simpa using this
  · rintro ⟨h1, h2⟩
    refine ⟨h1, fun k hk => ?_⟩
    rw [cut_tx (by omega), cut_tx (by omega)]
    simpa using h2 k (by omega) (by omega)
theorem g185_i (A : aF S 12 24000 f N) (k5 : Int32 → Int32 → Int32 → Int32 → mS → Option (Int32 × mS)) (x4 : Int32) {x5 c a m : Nat} (h21 : x5 < 984 ∧ S.2 21 x5 = nI c) (hc : c + m ≤ N) (ha : a + m ≤ N) (was b : Bool) : gl185_57 k5 xFuel (nI a) (nI m) (bZ was) x4 (nI x5) (bZ b) (nI 0) S = k5 (nI a) (nI m) (bZ (was || (b && al (fun i => f (c + i) == f (a + i)) 0 m))) (x4 + 1) S := by
  have hN := A.n600
  have f0 : ∀ (b : Bool) (x7 : Int32), gj185_106 k5 (nI a) (nI m) (bZ was) x4 (nI x5) (bZ b) x7 S = k5 (nI a) (nI m) (bZ (was || b)) (x4 + 1) S := fun b x7 => by
    unfold gj185_106 gj185_120 gj185_115 gj185_120
    cases was <;> cases b <;> rfl
  refine l_al (fun n b i => gl185_57 k5 n (nI a) (nI m) (bZ was) x4 (nI x5) (bZ b) (nI i) S) (fun i => f (c + i) == f (a + i)) (fun b => k5 (nI a) (nI m) (bZ (was || b)) (x4 + 1) S) m (fun n b => ?_) (fun n k hk => ?_) (fun n k hk => ?_) m xFuel 0 b (by omega) (pFuel _ (by omega))
  · simp only [gl185_57]
    rw [if_pos (nI_le (Nat.le_refl _) (by omega)), f0]
  · simp only [gl185_57]
    rw [if_neg (nI_ge hk (by omega)), if_pos bZf, f0]
  · have c1 := (A.2.2 (c + k) (by omega)).1
    have c2 := (A.2.2 (a + k) (by omega)).1
    simp only [gl185_57]
    rw [if_neg (nI_ge hk (by omega)), if_neg bZt, ld_21 h21.1, h21.2]
    simp only [bS, nI_add]
    rw [g167_s A (by omega)]
    simp only [bS]
    rw [g167_s A (by omega)]
    simp only [bS, gj185_98, nI_1]
    by_cases h : f (c + k) = f (a + k)
    · rw [if_pos (by rw [h]), show (f (c + k) == f (a + k)) = true from by simpa using h, bZ_t]
    · rw [if_neg (nI_ne h (by omega) (by omega)), show (f (c + k) == f (a + k)) = false from by simpa using h, bZ_f]
theorem g185_l (A : aF S 12 24000 (tx bs) bs.length) (M : mRd S 40 r) (h24 : r.1.length ≤ 24) (hB : ∀ b ∈ r.1, wB (tx bs) bs.length r.2.length b) {a z : Nat} (haz : a ≤ z) (hz : z ≤ bs.length) : ∀ k n i, i + k = r.1.length → k < n → gl185_5 n (nI a) (nI (z - a)) (bZ ((r.1.take i).any fun b => decide (bSo b = 2) && decide (cut bs (bNf b) (bNt b) = cut bs a z))) (nI i) S = some (bZ (r.1.any fun b => decide (bSo b = 2) && decide (cut bs (bNf b) (bNt b) = cut bs a z)), S) := by
  have hN := A.n600
  intro k
  induction k with
  | zero =>
    intro n i hi hn
    obtain ⟨n, rfl⟩ : ∃ m, n = m + 1 := ⟨n - 1, by omega⟩
    rw [gl185_5]
    dsimp only
    rw [lt_40, ld_14 (by decide), M.1.1]
    simp only [bS]
    rw [if_pos (nI_le (by omega) (by omega)), if_pos bZ_p, List.take_of_length_le (by omega)]
  | succ k ih =>
    intro n i hi hn
    obtain ⟨n, rfl⟩ : ∃ m, n = m + 1 := ⟨n - 1, by omega⟩
    have mb := M.1.2 i (by omega)
    rw [show 24 * 40 + i = 960 + i by omega] at mb
    have hx := hB _ (gD_mem (d := bkD) (show i < r.1.length by omega))
    have := ih n (i + 1) (by omega) (by omega)
    rw [any_take (by omega)] at this
    rw [gl185_5]
    dsimp only
    rw [lt_40, ld_14 (by decide), M.1.1]
    simp only [bS]
    rw [if_neg (nI_ge (by omega) (by omega)), lt_960, nI_add, ld_16 (by omega), mb.1, ld_22 (by omega), mb.2.2.2.2.2.2.1]
    simp only [bS]
    rw [← this]
    generalize (r.1.take i).any (fun b => decide (bSo b = 2) && decide (cut bs (bNf b) (bNt b) = cut bs a z)) = was
    generalize r.1.getD i bkD = b at mb hx ⊢
    obtain ⟨w1, w2, w3, w4, w5, w6, w7⟩ := hx
    have q : ∀ b0 : Bool, (b0 = true → bNt b - bNf b = z - a) → gl185_57 (gl185_5 n) xFuel (nI a) (nI (z - a)) (bZ was) (nI i) (nI (960 + i)) (bZ b0) (nI 0) S = gl185_5 n (nI a) (nI (z - a)) (bZ (was || (b0 && al (fun i => tx bs (bNf b + i) == tx bs (a + i)) 0 (z - a)))) (nI (i + 1)) S := fun b0 hb0 => by
      cases b0 with
      | true =>
        have := hb0 rfl
        rw [← nI_1]
        exact g185_i A (gl185_5 n) (nI i) ⟨by omega, mb.2.2.2.2.2.1⟩ (by omega) (by omega) was true
      | false =>
        rw [xF1, gl185_57]
        dsimp only
        rw [if_pos bZf]
        unfold gj185_106 gj185_120 gj185_115 gj185_120
        rw [ite_self, nI_1]
        cases was <;> rfl
    rw [cut_al hz w6]
    by_cases h2 : bSo b = 2
    · rw [if_pos (show nI (bSo b) = 2 by rw [h2]; rfl), decide_eq_true h2, Bool.true_and]
      by_cases h3 : bNt b - bNf b = z - a
      · rw [if_pos (by rw [h3]), decide_eq_true h3]
        exact q true fun _ => h3
      · rw [if_neg (nI_ne h3 (by omega) (by omega)), decide_eq_false h3]
        exact q false fun h9 => by cases h9
    · rw [if_neg (show ¬ _ = (2 : Int32) from nI_ne h2 (by omega) (by decide)), decide_eq_false h2]
      exact q false fun h9 => by cases h9
theorem g185_s (A : aF S 12 24000 (tx bs) bs.length) (M : mRd S 40 r) (h24 : r.1.length ≤ 24) (hB : ∀ b ∈ r.1, wB (tx bs) bs.length r.2.length b) {a z : Nat} (haz : a ≤ z) (hz : z ≤ bs.length) : g185 (nI a) (nI (z - a)) S = some (bZ (r.1.any fun b => decide (bSo b = 2) && decide (cut bs (bNf b) (bNt b) = cut bs a z)), S) := g185_l A M h24 hB haz hz r.1.length xFuel 0 (by omega) (pFuel _ (by omega))
theorem nmAt_iff (f : Nat → Nat) (i k : Nat) : nmOK f i k = true ↔ 0 < k ∧ nmAt f i (i + k) = k := by
  constructor
  · intro h
    exact ⟨(nmOK_NB h).1, nmAt_nm f (Nat.le_refl _) h (Or.inl rfl)⟩
  · rintro ⟨h1, h2⟩
    have := (nmAt_ok f (i := i) (e := i + k) (by omega)).1
    rwa [h2] at this
theorem g186_s (A : aF S 12 24000 f N) {so a z : Nat} (hso : so ≤ 7) (haz : a ≤ z) (hz : z ≤ N) : g186 (nI so) (nI a) (nI z) S = some (bZ (if so = 2 then nmOK f a (z - a) else if so = 6 then nuOK f a (z - a) else rfOK f a (z - a)), S) := by
  have hN := A.n600
  have az : a + (z - a) = z := by omega
  unfold g186
  rw [pk_sub haz, lt_24000, nI_add, nI_add]
  by_cases h2 : so = 2
  · rw [if_pos (show nI so = 2 by rw [h2]; rfl), if_pos h2]
    have e1 := nmAt_iff f a (z - a)
    rw [az] at e1
    by_cases h0 : z - a = 0
    · rw [if_pos (show nI (z - a) ≤ 0 by rw [h0]; decide)]
      have : nmOK f a (z - a) = false := Bool.eq_false_iff.mpr fun h9 => by have := (e1.mp h9).1; omega
      rw [this]
      rfl
    · rw [if_neg (nI_nle (by omega) (by omega)), g162_s A haz hz]
      simp only [bS]
      have l1 := nmAt_le f a z
      by_cases h3 : nmAt f a z = z - a
      · rw [if_pos (by rw [h3]), e1.mpr ⟨by omega, h3⟩]
        rfl
      · rw [if_neg (nI_ne h3 (by omega) (by omega)), Bool.eq_false_iff.mpr fun h9 => h3 (e1.mp h9).2]
        rfl
  · rw [if_neg (show ¬ _ = (2 : Int32) from nI_ne h2 (by omega) (by decide)), if_neg h2]
    by_cases h6 : so = 6
    · rw [if_pos (show nI so = 6 by rw [h6]; rfl), if_pos h6, g141_s]
      simp only [bS]
      have e4 : decide ((1 : Int32) ≤ nI (z - a) ∧ nI (z - a) ≤ 4) = (decide (1 ≤ z - a) && decide (z - a ≤ 4)) := by
        rw [show (1 : Int32) = nI 1 from rfl, lt_4]
        simp (disch := omega) only [nI_leI]
        simp
      rw [e4]
      unfold nuOK
      refine Eq.trans (l_al (fun n b i => gl186_94 n (nI so) (nI a) (nI z) (nI (z - a)) (bZ b) (nI i) S) (fun i => isFg (f i)) (fun b => some (bZ b, S)) z (fun n b => ?_) (fun n k hk => ?_) (fun n k hk => ?_) (z - a) xFuel a _ (by omega) (pFuel _ (by omega))) ?_
      · simp only [gl186_94, gj186_122]
        rw [if_pos (nI_le (Nat.le_refl _) (by omega)), if_pos bZ_p]
      · simp only [gl186_94, gj186_122]
        rw [if_neg (nI_ge hk (by omega)), if_pos bZf]
        rfl
      · have c := fun hk2 => (A.2.2 k hk2).1
        simp only [gl186_94]
        rw [if_neg (nI_ge hk (by omega)), if_neg bZt, g167_s A (by omega)]
        have c2 := c (by omega)
        simp only [bS]
        rw [g147_s (by omega)]
        simp only [bS, nI_1]
      · congr 4
        rw [Bool.eq_iff_iff, al_iff, decide_eq_true_eq]
        constructor
        · intro h
          exact sc_un _ (by omega) (Nat.le_refl _) (fun j x y => by simp [h j x y]) (fun h9 => absurd h9 (Nat.lt_irrefl _))
        · intro h j x y
          have := sc_no (fun j => !isFg (f j)) (z - a) a j x (by omega)
          simpa using this
    · rw [if_neg (show ¬ _ = (6 : Int32) from nI_ne h6 (by omega) (by decide)), if_neg h6]
      have e1 := rfAt_iff f a (z - a)
      rw [az] at e1
      by_cases h0 : z - a = 0
      · rw [if_pos (show nI (z - a) ≤ 0 by rw [h0]; decide)]
        have : rfOK f a (z - a) = false := Bool.eq_false_iff.mpr fun h9 => by have := (e1.mp h9).1; omega
        rw [this]
        rfl
      · rw [if_neg (nI_nle (by omega) (by omega)), g163_s A haz hz]
        simp only [bS]
        have l1 := rfAt_le f haz
        by_cases h3 : rfAt f a z = z - a
        · rw [if_pos (by rw [h3]), e1.mpr ⟨by omega, h3⟩]
          rfl
        · rw [if_neg (nI_ne h3 (by omega) (by omega)), Bool.eq_false_iff.mpr fun h9 => h3 (e1.mp h9).2]
          rfl
end PMTG
