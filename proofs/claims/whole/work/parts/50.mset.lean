section PMSET
/-- how many places of an array are an entry's -/
def uE (k : Nat) : Nat := if k = 7 then 10 else if k = 10 then 40 else if k = 11 then 4 else if k = 12 then 600 else if 16 ≤ k ∧ k ≤ 23 then 24 else if 24 ≤ k ∧ k ≤ 30 then 120 else if 3 ≤ k ∧ k ≤ 15 then 1 else 0
def ag (e : Nat) (S S' : mS) : Prop := ∀ k i, uE k * e ≤ i → i < uE k * (e + 1) → S'.2 k i = S.2 k i
theorem ag.rfl' {e : Nat} {S : mS} : ag e S S := fun _ _ _ _ => rfl
theorem ag.tr {e : Nat} {S S1 S2 : mS} (a : ag e S S1) (b : ag e S1 S2) : ag e S S2 := fun k i h1 h2 => (b k i h1 h2).trans (a k i h1 h2)
theorem ag.put {e k : Nat} {S : mS} {v : Int32} : ag e S (sPut S k v) := fun _ _ _ _ => rfl
theorem ag.set {e k i : Nat} {S : mS} {v : Int32} (h : i < uE k * e ∨ uE k * (e + 1) ≤ i) : ag e S (sSet S k i v) := by
  intro k2 i2 h1 h2
  rw [sS2, if_neg]
  rintro ⟨rfl, rfl⟩
  omega
theorem aF_ag {S S' : mS} {q off N : Nat} {f : Nat → Nat} (A : aF S q off f N) (h : ∀ i, i < N → S'.2 q (off + i) = S.2 q (off + i)) : aF S' q off f N := ⟨A.1, A.2.1, fun i hi => ⟨(A.2.2 i hi).1, by rw [h i hi]; exact (A.2.2 i hi).2⟩⟩
theorem mRd_ag {S S' : mS} {e : Nat} {r : Rd} (M : mRd S e r) (h1 : r.1.length ≤ 24) (h2 : r.2.length ≤ 120) (A : ag e S S') : mRd S' e r := by
  have u : ∀ k, 16 ≤ k → k ≤ 23 → ∀ j, j < 24 → S'.2 k (24 * e + j) = S.2 k (24 * e + j) := by
    intro k a b j hj
    have e1 : uE k = 24 := by
      have : k = 16 ∨ k = 17 ∨ k = 18 ∨ k = 19 ∨ k = 20 ∨ k = 21 ∨ k = 22 ∨ k = 23 := by omega
      rcases this with rfl | rfl | rfl | rfl | rfl | rfl | rfl | rfl <;> rfl
    exact A k _ (by rw [e1]; omega) (by rw [e1]; omega)
  have v : ∀ k, 24 ≤ k → k ≤ 30 → ∀ j, j < 120 → S'.2 k (120 * e + j) = S.2 k (120 * e + j) := by
    intro k a b j hj
    have e1 : uE k = 120 := by
      have : k = 24 ∨ k = 25 ∨ k = 26 ∨ k = 27 ∨ k = 28 ∨ k = 29 ∨ k = 30 := by omega
      rcases this with rfl | rfl | rfl | rfl | rfl | rfl | rfl <;> rfl
    exact A k _ (by rw [e1]; omega) (by rw [e1]; omega)
  refine ⟨⟨?_, fun k hk => ?_⟩, ?_, fun k hk => ?_⟩
  · rw [A 14 e (show 1 * e ≤ e by omega) (show e < 1 * (e + 1) by omega)]
    exact M.1.1
  · have := M.1.2 k hk
    unfold mBk at this ⊢
    rw [u 16 (by decide) (by decide) k (by omega), u 17 (by decide) (by decide) k (by omega), u 18 (by decide) (by decide) k (by omega), u 19 (by decide) (by decide) k (by omega), u 20 (by decide) (by decide) k (by omega), u 21 (by decide) (by decide) k (by omega), u 22 (by decide) (by decide) k (by omega), u 23 (by decide) (by decide) k (by omega)]
    exact this
  · rw [A 15 e (show 1 * e ≤ e by omega) (show e < 1 * (e + 1) by omega)]
    exact M.2.1
  · have := M.2.2 k hk
    unfold mPc at this ⊢
    rw [v 24 (by decide) (by decide) k (by omega), v 25 (by decide) (by decide) k (by omega), v 26 (by decide) (by decide) k (by omega), v 27 (by decide) (by decide) k (by omega), v 28 (by decide) (by decide) k (by omega), v 29 (by decide) (by decide) k (by omega), v 30 (by decide) (by decide) k (by omega)]
    exact this
theorem mEn_ag {S S' : mS} {e : Nat} {n : En} {es : List En} (M : mEn S e n) (w : wEn es e n) (A : ag e S S') : mEn S' e n := by
  obtain ⟨⟨a1, a2, a3, a4⟩, ⟨b1, b2⟩, ⟨c1, c2⟩, d⟩ := M
  obtain ⟨_, _, _, w4, _, _, w7, w8, w9⟩ := w
  have u : ∀ k, uE k = 1 → S'.2 k e = S.2 k e := fun k hk => A k e (by rw [hk]; omega) (by rw [hk]; omega)
  have n1 := (nmOK_NB w4).2.1
  refine ⟨⟨by rw [u 3 rfl]; exact a1, by rw [u 4 rfl]; exact a2, by rw [u 5 rfl]; exact a3, by rw [u 6 rfl]; exact a4⟩, ⟨by rw [u 8 rfl]; exact b1, aF_ag b2 fun i hi => A 7 _ (show 10 * e ≤ _ by omega) (show _ < 10 * (e + 1) by omega)⟩, ⟨by rw [u 9 rfl]; exact c1, fun k hk => ?_⟩, ?_⟩
  · obtain ⟨p1, p2⟩ := c2 k hk
    have hm : (ePs n).getD k [] ∈ ePs n := by simp [List.getD_eq_getElem?_getD, hk]
    have n2 := (nmOK_NB (w8 _ hm)).2.1
    refine ⟨by rw [A 11 _ (show 4 * e ≤ _ by omega) (show _ < 4 * (e + 1) by omega)]; exact p1, aF_ag p2 fun i hi => A 10 _ (show 40 * e ≤ _ by omega) (show _ < 40 * (e + 1) by omega)⟩
  · cases hc : eCm n with
    | none =>
      rw [hc] at d
      show S'.2 13 e = -1 ∧ S'.2 14 e = 0 ∧ S'.2 15 e = 0
      rw [u 13 rfl, u 14 rfl, u 15 rfl]
      exact d
    | some c =>
      rw [hc] at d
      have wc := w9 c hc
      refine ⟨by rw [u 13 rfl]; exact d.1, aF_ag d.2.1 fun i hi => A 12 _ (show 600 * e ≤ _ by omega) (show _ < 600 * (e + 1) by have := wc.1.1; omega), mRd_ag d.2.2 wc.2.1 wc.2.2.1 A⟩
theorem mEs_ag {S S' : mS} {es : List En} (M : mEs S es) (w : wE es) (h : S'.1 2 = S.1 2) (A : ∀ e, e < es.length → ag e S S') : mEs S' es := ⟨by rw [h]; exact M.1, fun e he => mEn_ag (M.2 e he) (w.2 e he) (A e he)⟩
/-- but for some ints and arrays all is the same -/
def df (J K : List Nat) (S S' : mS) : Prop := (∀ j, j ∉ J → S'.1 j = S.1 j) ∧ ∀ k, k ∉ K → S'.2 k = S.2 k
theorem df.rfl' {J K : List Nat} {S : mS} : df J K S S := ⟨fun _ _ => rfl, fun _ _ => rfl⟩
theorem df.tr {J K : List Nat} {S S1 S2 : mS} (a : df J K S S1) (b : df J K S1 S2) : df J K S S2 := ⟨fun j hj => (b.1 j hj).trans (a.1 j hj), fun k hk => (b.2 k hk).trans (a.2 k hk)⟩
theorem df.put {J K : List Nat} {S : mS} {k : Nat} {v : Int32} (h : k ∈ J) : df J K S (sPut S k v) := ⟨fun j hj => by rw [sP1, if_neg (fun h9 : j = k => hj (h9 ▸ h))], fun _ _ => rfl⟩
theorem df.set {J K : List Nat} {S : mS} {k i : Nat} {v : Int32} (h : k ∈ K) : df J K S (sSet S k i v) := ⟨fun _ _ => rfl, fun j hj => funext fun n => by rw [sS2, if_neg (fun h9 : j = k ∧ n = i => hj (h9.1 ▸ h))]⟩
theorem mPg_df {J K : List Nat} {S S' : mS} {p : Pg} (D : df J K S S') (h : (53 ∉ J ∧ 55 ∉ J ∧ 59 ∉ J ∧ 56 ∉ J ∧ 57 ∉ J) ∧ 52 ∉ K ∧ 54 ∉ K ∧ 58 ∉ K) (M : mPg S p) : mPg S' p := by
  unfold mPg
  rw [D.1 53 h.1.1, D.1 55 h.1.2.1, D.1 59 h.1.2.2.1, D.1 56 h.1.2.2.2.1, D.1 57 h.1.2.2.2.2, D.2 52 h.2.1, D.2 54 h.2.2.1, D.2 58 h.2.2.2]
  exact M
theorem mNt_df {J K : List Nat} {S S' : mS} {l : List (Nat × Nat)} (D : df J K S S') (h : 73 ∉ J ∧ 71 ∉ K ∧ 72 ∉ K) (M : mNt S l) : mNt S' l := by
  unfold mNt
  rw [D.1 73 h.1, D.2 71 h.2.1, D.2 72 h.2.2]
  exact M
theorem mEs_df {J K : List Nat} {S S' : mS} {es : List En} (D : df J K S S') (h : 2 ∉ J ∧ ∀ k ∈ K, uE k = 0) (M : mEs S es) (w : wE es) : mEs S' es := by
  refine mEs_ag M w (D.1 2 h.1) fun e he k i h1 h2 => ?_
  by_cases hk : k ∈ K
  · rw [h.2 k hk] at h2
    omega
  · rw [D.2 k hk]
theorem mTp_df {J K : List Nat} {S S' : mS} {bs : List Nat} (D : df J K S S') (h : 1 ∉ J ∧ 0 ∉ K) (M : mTp S bs) : mTp S' bs := by
  refine ⟨by rw [D.1 1 h.1]; exact M.1, aF_ag M.2 fun i hi => by rw [D.2 0 h.2]⟩
/-- the tape alone changes -/
theorem MR_tape {S S' : mS} {σ : St} {bs : List Nat} (M : MR S σ) (w : wSt σ) (D : df [1] [0] S S') (T : mTp S' bs) : MR S' (bs, σ.2) := ⟨T, mEs_df D (by decide) M.2.1 w.2.1, by rw [D.1 33 (by decide)]; exact M.2.2.1, mPg_df D (by decide) M.2.2.2.1, mNt_df D (by decide) M.2.2.2.2⟩
theorem mTp_0 {S : mS} : mTp (sPut S 1 0) [] := ⟨rfl, by show 0 ≤ 600; decide, by show 600 < 30000; decide, fun i hi => absurd hi (Nat.not_lt_zero _)⟩
theorem mTp_add {S : mS} {bs : List Nat} {c : Nat} (M : mTp S bs) (hl : bs.length < 600) (hc : c < 256) : mTp (sPut (sSet S 0 bs.length (nI c)) 1 (nI bs.length + 1)) (bs ++ [c]) := by
  refine ⟨by rw [nI_1]; simp [sP1], by show 0 + (bs ++ [c]).length ≤ 600; simp; omega, by show 600 < 30000; decide, fun i hi => ?_⟩
  have hi : i < bs.length + 1 := by simpa using hi
  show tx (bs ++ [c]) i < 256 ∧ (if 0 = 0 ∧ 0 + i = bs.length then nI c else S.2 0 (0 + i)) = nI (tx (bs ++ [c]) i)
  by_cases h : i = bs.length
  · subst h
    have : tx (bs ++ [c]) bs.length = c := by simp [tx, List.getD_eq_getElem?_getD]
    rw [this, if_pos ⟨rfl, by omega⟩]
    exact ⟨hc, rfl⟩
  · have : tx (bs ++ [c]) i = tx bs i := by simp [tx, List.getD_eq_getElem?_getD, List.getElem?_append_left (show i < bs.length by omega)]
    rw [this, if_neg (by omega)]
    exact M.2.2.2 i (by omega)
theorem g142_1 {S : mS} {bs : List Nat} (M : mTp S bs) (hl : bs.length < 600) {x1 x2 : Int32} (hx : ¬ x2 < 0) {c : Nat} (hc : c < 256) (he : (x1 >>> (x2 &&& 31)) &&& 255 = nI c) (n : Nat) : ∃ S', gl142_3 (n + 1) x1 x2 S = gl142_3 n x1 (x2 + (-8)) S' ∧ mTp S' (bs ++ [c]) ∧ df [1] [0] S S' := by
  refine ⟨_, ?_, mTp_add M hl hc, (df.set (by decide)).tr (df.put (by decide))⟩
  rw [gl142_3]
  simp only [if_neg hx]
  rw [M.1, he, st_0 hl]
  simp only [Option.bind_some, sS1, M.1]
theorem g142_s {S : mS} {bs : List Nat} (M : mTp S bs) (hl : bs.length + 4 ≤ 600) (x : Int32) : ∃ S', g142 x S = some S' ∧ mTp S' (bs ++ b4 x) ∧ df [1] [0] S S' := by
  unfold g142
  rw [show xFuel = 999995 + 1 + 1 + 1 + 1 + 1 from rfl]
  obtain ⟨S1, e1, T1, Q1⟩ := g142_1 M (by omega) (x1 := x) (x2 := 24) (by decide) (bOf_lt _) (sh_byte x 24 24 (by omega) (by decide) (by decide)) (999995 + 1 + 1 + 1 + 1)
  obtain ⟨S2, e2, T2, Q2⟩ := g142_1 T1 (by simp; omega) (x1 := x) (x2 := 16) (by decide) (bOf_lt _) (sh_byte x 16 16 (by omega) (by decide) (by decide)) (999995 + 1 + 1 + 1)
  obtain ⟨S3, e3, T3, Q3⟩ := g142_1 T2 (by simp; omega) (x1 := x) (x2 := 8) (by decide) (bOf_lt _) (sh_byte x 8 8 (by omega) (by decide) (by decide)) (999995 + 1 + 1)
  obtain ⟨S4, e4, T4, Q4⟩ := g142_1 T3 (by simp; omega) (x1 := x) (x2 := 0) (by decide) (bOf_lt _) (sh_byte x 0 0 (by omega) (by decide) (by decide)) (999995 + 1)
  refine ⟨S4, ?_, by simpa [b4] using T4, ((Q1.tr Q2).tr Q3).tr Q4⟩
  rw [e1, show (24 : Int32) + (-8) = 16 by decide, e2, show (16 : Int32) + (-8) = 8 by decide, e3, show (8 : Int32) + (-8) = 0 by decide, e4, gl142_3]
  exact if_pos (show (0 : Int32) + (-8) < 0 by decide)
theorem b4_len (x : Int32) : (b4 x).length = 4 := rfl
/-- feed -/
theorem m_feed {S : mS} {σ : St} (M : MR S σ) (w : wSt σ) (a : Nat → Int32) : ∃ S', g143 (a 1) (a 2) (a 3) (a 4) (a 5) S = some ((stp σ 0 a).1, S') ∧ MR S' (stp σ 0 a).2 := by
  have t2 := w.1.1
  unfold g143 stp
  rw [M.1.1, show (20 : Int32) = nI 20 from rfl, nI_add, lt_600]
  simp (disch := omega) only [nI_leI]
  by_cases hl : 600 < σ.1.length + 20
  · rw [if_neg (by omega), if_pos hl]
    exact ⟨S, rfl, M⟩
  · rw [if_pos (by omega), if_neg hl]
    obtain ⟨S1, e1, T1, Q1⟩ := g142_s M.1 (by omega) (a 1)
    obtain ⟨S2, e2, T2, Q2⟩ := g142_s T1 (by simp [b4_len]; omega) (a 2)
    obtain ⟨S3, e3, T3, Q3⟩ := g142_s T2 (by simp [b4_len]; omega) (a 3)
    obtain ⟨S4, e4, T4, Q4⟩ := g142_s T3 (by simp [b4_len]; omega) (a 4)
    obtain ⟨S5, e5, T5, Q5⟩ := g142_s T4 (by simp [b4_len]; omega) (a 5)
    refine ⟨S5, ?_, MR_tape M w ((((Q1.tr Q2).tr Q3).tr Q4).tr Q5) T5⟩
    simp only [e1, e2, e3, e4, e5, Option.bind_some, T5.1]
    simp [b4_len]
theorem tx_take {bs : List Nat} {n i : Nat} (h : i < n) : tx (bs.take n) i = tx bs i := by simp [tx, List.getD_eq_getElem?_getD, List.getElem?_take, h]
theorem m_end {S : mS} {σ : St} (M : MR S σ) (w : wSt σ) (a : Nat → Int32) : ∃ S', g144 (a 1) S = some ((stp σ 1 a).1, S') ∧ MR S' (stp σ 1 a).2 := by
  have t2 := w.1.1
  unfold g144 stp
  rw [M.1.1, g141_s]
  simp only [Option.bind_some, bZ_0, decide_eq_false_iff_not]
  by_cases h0 : a 1 < 0 ∨ nI σ.1.length < a 1
  · rw [if_pos h0, if_pos]
    · exact ⟨S, rfl, M⟩
    · rintro ⟨x, y⟩
      rcases h0 with h0 | h0
      · exact absurd h0 (Int32.not_lt.mpr x)
      · exact absurd h0 (Int32.not_lt.mpr y)
  · have h1 : ¬ a 1 < 0 := fun h9 => h0 (Or.inl h9)
    have h2 : ¬ nI σ.1.length < a 1 := fun h9 => h0 (Or.inr h9)
    rw [if_neg h0, if_neg fun h9 => h9 ⟨Int32.not_lt.mp h1, Int32.not_lt.mp h2⟩]
    obtain ⟨j, hj, e⟩ := nI_of h1
    have hj2 : j ≤ σ.1.length := Nat.not_lt.mp fun h9 => h2 (by rw [e]; exact nI_lt h9 hj)
    have hlen : (σ.1.take j).length = j := by simp [hj2]
    refine ⟨_, by rw [M.1.1], ?_⟩
    rw [e, nI_clamp hj]
    refine MR_tape M w (df.put (by decide)) ⟨by rw [hlen]; simp [sP1], by show 0 + _ ≤ 600; omega, by show 600 < 30000; decide, fun i hi => ?_⟩
    rw [hlen] at hi
    rw [tx_take hi]
    exact M.1.2.2.2 i (by omega)
/-- leads -/
theorem m_leads {S : mS} {σ : St} (M : MR S σ) (w : wSt σ) (a : Nat → Int32) : ∃ S', g165 (a 1) S = some ((stp σ 11 a).1, S') ∧ MR S' (stp σ 11 a).2 := by
  have t2 := w.1.1
  have M1 : MR (sPut S 1 0) ([], σ.2) := MR_tape M w (df.put (by decide)) mTp_0
  have A : aF (sPut S 1 0) 0 0 (tx σ.1) σ.1.length := M.1.2
  unfold g165
  simp only [Option.bind_some]
  generalize sPut S 1 0 = S1 at M1 A
  rw [g148_s M1.2.1 w.2.1, M.1.1]
  simp only [Option.bind_some, bZ_0]
  show ∃ S', _ = some ((sLds σ (a 1)).1, S') ∧ MR S' ([], σ.2)
  unfold sLds
  refine ⟨_, ?_, M1⟩
  cases he : eIx σ.2.1 (a 1) with
  | none => rfl
  | some e =>
    obtain ⟨h1, e1⟩ := eIx_lt he
    have r1 := rfAt_iff (tx σ.1) 0 σ.1.length
    rw [Nat.zero_add] at r1
    have g1 := g163_s A (i := 0) (e := σ.1.length) (Nat.zero_le _) (Nat.le_refl _)
    rw [Nat.add_zero, Nat.zero_add] at g1
    rw [if_neg (by simp), e1, show (0 : Int32) = nI 0 from rfl]
    simp (disch := omega) only [nI_leI]
    have rl : rfAt (tx σ.1) 0 σ.1.length ≤ 21 := by
      unfold rfAt
      have := nmAt_le (tx σ.1) 0 σ.1.length
      have := nmAt_le (tx σ.1) (0 + nmAt (tx σ.1) 0 σ.1.length + 1) σ.1.length
      dsimp only
      repeat' split
      all_goals omega
    by_cases h0 : σ.1.length ≤ 0
    · rw [if_pos h0]
      have : ¬ rfOK (tx σ.1) 0 σ.1.length = true := fun h9 => by have := (r1.mp h9).1; omega
      rw [if_neg this]
      rfl
    · rw [if_neg h0, g1]
      simp (disch := omega) only [Option.bind_some, nI_eq]
      by_cases h2 : rfAt (tx σ.1) 0 σ.1.length = σ.1.length
      · have hr := r1.mpr ⟨by omega, h2⟩
        rw [if_pos h2, if_pos hr, g164_s M1.2.1 w.2.1 A hr h1]
        rfl
      · rw [if_neg h2, if_neg fun h9 => h2 (r1.mp h9).2]
        rfl
end PMSET
