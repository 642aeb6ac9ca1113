section PMCM
theorem sc_t {p : Nat → Bool} {i k : Nat} (h : p i = true) : sc p i (k + 1) = i := by rw [sc, if_pos h]
theorem sc_f {p : Nat → Bool} {i k : Nat} (h : p i = false) : sc p i (k + 1) = sc p (i + 1) k := by rw [sc, if_neg (by rw [h]; decide)]
variable {S : mS} {bs : List Nat}
/-- the lines -/
theorem g177_l {mb : Bool} : ∀ m n p c gap (r : Rd) (S : mS), bs.length < p + m → m < n → aF S 12 24000 (tx bs) bs.length → rdL S r gap mb → c ≤ p → c ≤ bs.length → wRd (tx bs) bs.length c r → (r.1.length = 0 → gap = true) → p ≤ bs.length + 1 → ∃ S', gl177_84 n (nI bs.length) (nI p) S = some S' ∧ rF rdJ S S' ∧ match rdAll bs mb m p gap r with
    | (r2, none) => mRd S' 40 r2 ∧ S'.1 31 = 0
    | (_, some q) => S'.1 31 = nI q.1 ∧ S'.1 32 = nI q.2 := by
  intro m
  induction m with
  | zero =>
    intro n p c gap r S hm hn A L _ _ w hg hp
    have hN := A.n600
    obtain ⟨n, rfl⟩ : ∃ k, n = k + 1 := ⟨n - 1, by omega⟩
    rw [gl177_84]
    dsimp only
    rw [if_pos (nI_le (by omega) (by omega))]
    exact ⟨S, rfl, rF.rfl', L.1, L.2.1⟩
  | succ m ih =>
    intro n p c gap r S hm hn A L hc hc2 w hg hp
    have hN := A.n600
    obtain ⟨n, rfl⟩ : ∃ k, n = k + 1 := ⟨n - 1, by omega⟩
    rw [rdAll]
    by_cases h : bs.length ≤ p
    · rw [if_pos h, gl177_84]
      dsimp only
      rw [if_pos (nI_le (by omega) (by omega))]
      exact ⟨S, rfl, rF.rfl', L.1, L.2.1⟩
    · rw [if_neg h]
      have l1 := ln_end (bs := bs) p (by omega)
      have l2 := rdLine_w (mb := mb) (gap := gap) l1.2.1 l1.2.2 (w.mono hc) l1.1 hg
      obtain ⟨T, t1, t2, t3⟩ := g177_1 A (show p < bs.length by omega) L (w.mono hc) hg n
      rw [t1]
      dsimp only
      generalize sc (fun j => tx bs j == 10) p (bs.length - p) = to at l1 l2 t3 ⊢
      cases hq : rdLine bs mb p to gap r with
      | mk r2 o =>
        rw [hq] at t3 l2
        cases o with
        | none =>
          dsimp only at t3 l2 ⊢
          obtain ⟨l3, l4⟩ := l2 rfl
          obtain ⟨V, v1, v2, v3⟩ := ih n (to + 1) to _ r2 T (by omega) (by omega) (t2.aF A) t3 (by omega) l1.2.1 l3 l4 (by omega)
          exact ⟨V, v1, t2.tr v2, v3⟩
        | some q =>
          dsimp only at t3 ⊢
          obtain ⟨n, rfl⟩ : ∃ k, n = k + 1 := ⟨n - 1, by omega⟩
          rw [gl177_84]
          dsimp only
          by_cases h2 : bs.length ≤ to + 1
          · rw [if_pos (nI_le h2 (by omega))]
            exact ⟨T, rfl, t2, t3⟩
          · have hc5 := rdLine_c (q := q) (by rw [hq])
            rw [if_neg (nI_ge (by omega) (by omega)), if_neg (show ¬ T.1 31 = 0 by rw [t3.1]; exact nI_ne0 (by omega) (by omega))]
            exact ⟨T, rfl, t2, t3⟩
/-- reading -/
theorem g177_s (A : aF S 12 24000 (tx bs) bs.length) {mb : Bool} (h34 : S.1 34 = bZ mb) : ∃ S', g177 (nI bs.length) S = some S' ∧ rF rdJ S S' ∧ match rdC bs mb with
    | (r2, none) => mRd S' 40 r2 ∧ S'.1 31 = 0
    | (_, some q) => S'.1 31 = nI q.1 ∧ S'.1 32 = nI q.2 := by
  have hN := A.n600
  unfold g177
  simp (disch := omega) only [bS, lt_40, st_14, st_15]
  have F : rF rdJ S (sPut (sPut (sSet (sSet (sPut S 31 0) 14 40 0) 15 40 0) 35 0) 36 1) := ((((rF.put (by decide)).tr (rF.set (by decide) (by simp [uE]))).tr (rF.set (by decide) (by simp [uE]))).tr (rF.put (by decide))).tr (rF.put (by decide))
  have L : rdL (sPut (sPut (sSet (sSet (sPut S 31 0) 14 40 0) 15 40 0) 35 0) 36 1) ([], []) true mb := by
    refine ⟨⟨⟨?_, fun k hk => absurd hk (Nat.not_lt_zero _)⟩, ?_, fun k hk => absurd hk (Nat.not_lt_zero _)⟩, rfl, rfl, rfl, h34, fun h9 => absurd h9 (Nat.not_lt_zero _)⟩
    · simp (disch := omega) only [sP_2, sS_ne, sS_eq]
      rfl
    · simp (disch := omega) only [sP_2, sS_eq]
      rfl
  have A1 := F.aF A
  generalize sPut (sPut (sSet (sSet (sPut S 31 0) 14 40 0) 15 40 0) 35 0) 36 1 = T at F L A1 ⊢
  -- odd bytes
  have key : ∀ k n i, i + k = bs.length → k < n → gl177_33 n (nI bs.length) (nI i) T = (if sc (fun j => !(tx bs j == 10) && !(decide (32 ≤ tx bs j) && decide (tx bs j ≤ 126))) i k < bs.length then gj177_82 (nI bs.length) (nI (sc (fun j => !(tx bs j == 10) && !(decide (32 ≤ tx bs j) && decide (tx bs j ≤ 126))) i k + 1)) (sPut (sPut T 31 (nI 1)) 32 (nI (sc (fun j => !(tx bs j == 10) && !(decide (32 ≤ tx bs j) && decide (tx bs j ≤ 126))) i k))) else gj177_82 (nI bs.length) (nI bs.length) T) := by
    intro k
    induction k with
    | zero =>
      intro n i hi hn
      obtain ⟨n, rfl⟩ : ∃ m, n = m + 1 := ⟨n - 1, by omega⟩
      have e : i = bs.length := by omega
      rw [gl177_33, sc]
      dsimp only
      rw [if_pos (nI_le (by omega) (by omega)), if_neg (by omega), e]
    | succ k ih =>
      intro n i hi hn
      obtain ⟨n, rfl⟩ : ∃ m, n = m + 1 := ⟨n - 1, by omega⟩
      have c := (A.2.2 i (by omega)).1
      rw [gl177_33]
      dsimp only
      rw [if_neg (nI_ge (by omega) (by omega)), if_pos L.2.1, g167_s A1 (by omega)]
      simp only [bS]
      by_cases h10 : tx bs i = 10
      · rw [if_pos (show nI (tx bs i) = 10 by rw [h10]; rfl), sc_f (by simp [h10])]
        unfold gj177_76
        rw [nI_1]
        exact ih n (i + 1) (by omega) (by omega)
      · rw [if_neg (show ¬ _ = (10 : Int32) from nI_ne h10 (by omega) (by decide)), g167_s A1 (by omega)]
        simp only [bS]
        rw [g141_s]
        simp only [bS, bZ_0]
        have e4 : decide ((32 : Int32) ≤ nI (tx bs i) ∧ nI (tx bs i) ≤ 126) = (decide (32 ≤ tx bs i) && decide (tx bs i ≤ 126)) := by
          rw [lt_32, lt_126]
          simp (disch := omega) only [nI_leI]
          simp
        rw [e4]
        have e5 : (tx bs i == 10) = false := by simpa using h10
        cases hb : decide (32 ≤ tx bs i) && decide (tx bs i ≤ 126) with
        | true =>
          rw [if_neg (show ¬ true = false by decide), sc_f (by rw [e5, hb]; rfl)]
          unfold gj177_76
          rw [nI_1]
          exact ih n (i + 1) (by omega) (by omega)
        | false =>
          rw [if_pos (Eq.refl false), sc_t (by rw [e5, hb]; rfl), if_pos (show i < bs.length by omega), show (1 : Int32) = nI 1 from rfl, g166_s _ _ L.2.1]
          simp only [bS]
          unfold gj177_76
          rw [nI_1]
          obtain ⟨n, rfl⟩ : ∃ m, n = m + 1 := ⟨n - 1, by omega⟩
          rw [gl177_33]
          dsimp only
          by_cases h2 : bs.length ≤ i + 1
          · rw [if_pos (nI_le h2 (by omega))]
          · rw [if_neg (nI_ge (by omega) (by omega)), if_neg (show ¬ (sPut (sPut T 31 (nI 1)) 32 (nI i)).1 31 = 0 by show ¬ nI 1 = 0; decide)]
  have e1 := key bs.length xFuel 0 (by omega) (pFuel _ (by omega))
  rw [show (0 : Int32) = nI 0 from rfl, e1]
  unfold rdC
  dsimp only
  generalize sc (fun j => !(tx bs j == 10) && !(decide (32 ≤ tx bs j) && decide (tx bs j ≤ 126))) 0 bs.length = o
  by_cases h : o < bs.length
  · rw [if_pos h, if_pos h]
    unfold gj177_82
    rw [xF1, gl177_84]
    dsimp only
    have G : rF rdJ S (sPut (sPut T 31 (nI 1)) 32 (nI o)) := F.tr ((rF.put (by decide)).tr (rF.put (by decide)))
    rw [if_neg (show ¬ nI bs.length ≤ 0 from nI_nle (by omega) (by omega)), if_neg (show ¬ (sPut (sPut T 31 (nI 1)) 32 (nI o)).1 31 = 0 by show ¬ nI 1 = 0; decide)]
    exact ⟨_, rfl, G, rfl, rfl⟩
  · rw [if_neg h, if_neg h]
    unfold gj177_82
    obtain ⟨V, v1, v2, v3⟩ := g177_l (mb := mb) 700 xFuel 0 0 true ([], []) T (by omega) (by decide) A1 L (Nat.le_refl _) (Nat.zero_le _) ⟨by decide, by decide, fun b hb => (by cases hb), fun p hp => (by cases hp), Nat.le_refl _, by decide, by decide, fun i hi => (by cases hi), Nat.le_refl _⟩ (fun _ => rfl) (by omega)
    exact ⟨V, v1, F.tr v2, v3⟩
end PMCM
