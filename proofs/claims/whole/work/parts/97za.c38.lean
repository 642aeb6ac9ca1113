section PC38
variable {C C' C1 C2 D : xC} {c : Ck} {fs ot w : Nat}
theorem brE.rfl' : brE C C := ⟨eqO.rfl', ⟨rfl, rfl⟩, sm.rfl'⟩
theorem brE.tr (a : brE C C1) (b : brE C1 C2) : brE C C2 := ⟨a.1.tr b.1, ⟨b.2.1.1.trans a.2.1.1, b.2.1.2.trans a.2.1.2⟩, a.2.2.tr b.2.2⟩
theorem brE.u3 {k : Nat} {v : Int32} : brE C (uI C 13 k v) := ⟨eqO.uI (fun h9 => h9.1 rfl), ⟨rfl, rfl⟩, rfl, rfl⟩
theorem brE.u4 {k : Nat} {v : Int32} : brE C (uI C 14 k v) := ⟨eqO.uI (fun h9 => h9.2 rfl), ⟨rfl, rfl⟩, rfl, rfl⟩
/-- from chunk i on: where the next line begins, the least badness -/
def lsC (C : xC) (n i : Nat) (t : List (Nat × Nat)) : Prop := cI C 14 n = 0 ∧ ∀ j, i ≤ j → j < n → cI C 13 j = nI (t.getD (j - i) (0, 0)).1 ∧ cI C 14 j = nI (t.getD (j - i) (0, 0)).2
theorem lsC.cost {n i : Nat} {t : List (Nat × Nat)} (L : lsC C n i t) (ht : t.length + i = n) {j : Nat} (h1 : i ≤ j) (h2 : j ≤ n) : cI C 14 j = nI (t.getD (j - i) (0, 0)).2 := by
  by_cases h : j < n
  · exact (L.2 j h1 h).2
  · obtain rfl : j = n := by omega
    rw [L.1, List.getD_eq_getElem?_getD, List.getElem?_eq_none (by omega)]
    rfl
theorem lsC.u3 {n i k : Nat} {v : Int32} {t : List (Nat × Nat)} (L : lsC C n i t) (h : k < i) : lsC (uI C 13 k v) n i t := ⟨by rw [uI_n (by omega)]; exact L.1, fun j h1 h2 => by rw [uI_n (by omega), uI_n (by omega)]; exact L.2 j h1 h2⟩
theorem lsC.u4 {n i k : Nat} {v : Int32} {t : List (Nat × Nat)} (L : lsC C n i t) (h : k < i) (hn : i ≤ n) : lsC (uI C 14 k v) n i t := ⟨by rw [uI_n (by omega)]; exact L.1, fun j h1 h2 => by rw [uI_n (by omega), uI_n (by omega)]; exact L.2 j h1 h2⟩
/-- other ends of a line -/
theorem g38_i (h : c.2.1.length < 122) (hw : w ≤ 60) (hf : fs ≤ 1000) (ho : ot ≤ 1000) (hm : ∀ a b, a ≤ b → b ≤ c.2.1.length → cks0 c a ≤ cks0 c b ∧ cks0 c b ≤ 1200) {i : Nat} {t : List (Nat × Nat)} (ht : t.length + (i + 1) = c.2.1.length) (htb : ∀ m, (t.getD m (0, 0)).2 ≤ 3600 * 130) (K : Nat → Int32 → xC → Option xC) (x2 : Int32) : ∀ m n (b : Nat × Nat) (C : xC), i + m < c.2.1.length → m < n → b.2 < 2 ^ 30 → brS C c w fs ot → lsC C c.2.1.length (i + 1) t → cI C 13 i = nI b.1 → cI C 14 i = nI b.2 → ∃ C', gl38_57 K n 8 (nI i) x2 (nI (i + m)) C = K 8 (nI i + (-1)) C' ∧ lsC C' c.2.1.length (i + 1) t ∧ cI C' 13 i = nI (best (plF c w fs ot i t) (i + m) m b).1 ∧ cI C' 14 i = nI (best (plF c w fs ot i t) (i + m) m b).2 ∧ brE C C' := by
  intro m
  induction m with
  | zero =>
    intro n b C hi hn hb B L a3 a4
    obtain ⟨n, rfl⟩ : ∃ x, n = x + 1 := ⟨n - 1, by omega⟩
    rw [gl38_57]
    dsimp only
    rw [if_pos (nI_le (by omega) (by omega))]
    exact ⟨C, Eq.refl _, L, a3, a4, brE.rfl'⟩
  | succ m ih =>
    intro n b C hi hn hb B L a3 a4
    obtain ⟨n, rfl⟩ : ∃ x, n = x + 1 := ⟨n - 1, by omega⟩
    obtain ⟨S, K0, d, ⟨e1, e2, e3⟩, ⟨f1, f2⟩, f3, f4⟩ := id B
    have pf : plF c w fs ot i t (i + (m + 1)) < 2 ^ 30 := by
      have := htb (i + (m + 1) - (i + 1))
      have := bdn_le (c := c) (fs := fs) (ot := ot) hw (i := i) (j := i + (m + 1))
      unfold plF
      omega
    rw [gl38_57]
    dsimp only
    rw [if_neg (nI_ge (by omega) (by omega)), g36_s S K0 h d e1 e2 e3 hw hf ho hm (by omega) (by omega)]
    simp only [bS]
    rw [f3]
    simp only [bS]
    rw [cLd_n (n := 122) (by omega) f4 (by decide), L.cost ht (by omega) (by omega)]
    simp only [bS]
    rw [cLd_n (n := 122) (by omega) f4 (by decide), a4]
    simp only [bS]
    rw [nI_add, show bdn c w fs ot i (i + (m + 1)) + (t.getD (i + (m + 1) - (i + 1)) (0, 0)).2 = plF c w fs ot i t (i + (m + 1)) from rfl, best]
    unfold gj38_103
    rw [nI_dec (show 0 < i + (m + 1) by omega), show i + (m + 1) - 1 = i + m by omega]
    by_cases h9 : plF c w fs ot i t (i + (m + 1)) < b.2
    · rw [if_neg (nI_ge h9 (by omega)), if_pos h9, f1]
      simp only [bS]
      rw [cSt_n (n := 122) (by omega) f2 (by decide)]
      simp only [bS]
      rw [uI_r, f3]
      simp only [bS]
      rw [cSt_n (n := 122) (by omega) (by rw [uI_K]; exact f4) (by decide)]
      simp only [bS]
      have E1 : brE C (uI (uI C 13 i (nI (i + (m + 1)))) 14 i (nI (plF c w fs ot i t (i + (m + 1))))) := brE.u3.tr brE.u4
      obtain ⟨V, v1, v2, v3, v4, v5⟩ := ih n (i + (m + 1), plF c w fs ot i t (i + (m + 1))) _ (by omega) (by omega) pf (B.kp E1) ((L.u3 (by omega)).u4 (by omega) (by omega)) (by rw [uI_n (by omega), uI_e]) (by rw [uI_e])
      exact ⟨V, v1, v2, v3, v4, E1.tr v5⟩
    · rw [if_pos (nI_le (by omega) (by omega)), if_neg h9]
      exact ih n b C (by omega) (by omega) hb B L a3 a4
/-- the least badness -/
theorem g38_l (h : c.2.1.length < 122) (hw : w ≤ 60) (hf : fs ≤ 1000) (ho : ot ≤ 1000) (hm : ∀ a b, a ≤ b → b ≤ c.2.1.length → cks0 c a ≤ cks0 c b ∧ cks0 c b ≤ 1200) : ∀ k n (x1 : Int32) r (C : xC), r + k = c.2.1.length → k < n → (k = 0 → x1 = -1) → (∀ j, k = j + 1 → x1 = nI j) → brS C c w fs ot → lsC C c.2.1.length k (plan c w fs ot true r) → ∃ C', gl38_17 n 8 x1 C = some C' ∧ lsC C' c.2.1.length 0 (plan c w fs ot true c.2.1.length) ∧ brE C C' := by
  intro k
  induction k with
  | zero =>
    intro n x1 r C hr hn hx _ B L
    obtain ⟨n, rfl⟩ : ∃ k, n = k + 1 := ⟨n - 1, by omega⟩
    rw [gl38_17]
    dsimp only
    rw [hx rfl, if_pos (by decide)]
    obtain rfl : r = c.2.1.length := by omega
    exact ⟨C, rfl, L, brE.rfl'⟩
  | succ k ih =>
    intro n x1 r C hr hn _ hx B L
    obtain ⟨n, rfl⟩ : ∃ k, n = k + 1 := ⟨n - 1, by omega⟩
    obtain ⟨S, K0, d, ⟨e1, e2, e3⟩, ⟨f1, f2⟩, f3, f4⟩ := id B
    have ei : c.2.1.length - (r + 1) = k := by omega
    have hs := plan_s (c := c) (w := w) (fs := fs) (ot := ot) (ls := true) r
    rw [ei] at hs
    have htl : (plan c w fs ot true r).length + (k + 1) = c.2.1.length := by rw [plan_len]; omega
    have htb : ∀ m, ((plan c w fs ot true r).getD m (0, 0)).2 ≤ 3600 * 130 := fun m => by
      by_cases hm : m < r
      · have := (plan_b (c := c) (w := w) (fs := fs) (ot := ot) (ls := true) hw r (by omega) m hm).1
        omega
      · rw [List.getD_eq_getElem?_getD, List.getElem?_eq_none (by rw [plan_len]; omega)]
        exact Nat.zero_le _
    have f9 := fill_ge (c := c) (w := w) (fs := fs) (ot := ot) k (c.2.1.length - (k + 1)) (k + 1)
    rw [show fill c w fs ot k (k + 1) (c.2.1.length - (k + 1)) = fst' c w fs ot k from rfl] at f9
    rw [gl38_17]
    dsimp only
    rw [hx k rfl, if_neg (nI_pos (by omega)), g35_s S K0 h d e1 e2 e3 hw hf ho hm (by omega)]
    simp only [bS]
    generalize fst' c w fs ot k = l at hs f9 ⊢
    rw [f1]
    simp only [bS]
    rw [cSt_n (n := 122) (by omega) f2 (by decide)]
    simp only [bS]
    have B1 : brS (uI C 13 k (nI l)) c w fs ot := B.kp brE.u3
    obtain ⟨S1, K1, d1, ⟨x1, x2, x3⟩, ⟨y1, y2⟩, y3, y4⟩ := id B1
    have L1 : lsC (uI C 13 k (nI l)) c.2.1.length (k + 1) (plan c w fs ot true r) := L.u3 (by omega)
    rw [g36_s S1 K1 h d1 x1 x2 x3 hw hf ho hm (by omega) (by omega)]
    simp only [bS]
    rw [y3]
    simp only [bS]
    rw [cLd_n (n := 122) (by omega) y4 (by decide), L1.cost htl (by omega) (by omega)]
    simp only [bS]
    rw [cSt_n (n := 122) (by omega) y4 (by decide)]
    simp only [bS]
    rw [nI_add, show bdn c w fs ot k l + ((plan c w fs ot true r).getD (l - (k + 1)) (0, 0)).2 = plF c w fs ot k (plan c w fs ot true r) l from rfl, nI_s1 (by omega)]
    have pf : plF c w fs ot k (plan c w fs ot true r) l < 2 ^ 30 := by
      have := htb (l - (k + 1))
      have := bdn_le (c := c) (fs := fs) (ot := ot) hw (i := k) (j := l)
      unfold plF
      omega
    have hi := g38_i h hw hf ho hm htl htb (gl38_17 n) (nI l) (l - 1 - k) xFuel (l, plF c w fs ot k (plan c w fs ot true r) l) (uI (uI C 13 k (nI l)) 14 k (nI (plF c w fs ot k (plan c w fs ot true r) l))) (by omega) (pFuel _ (by omega)) pf (B1.kp brE.u4) (L1.u4 (by omega) (by omega)) (by rw [uI_n (by omega), uI_e]) (by rw [uI_e])
    rw [show k + (l - 1 - k) = l - 1 by omega] at hi
    obtain ⟨V, v1, v2, v3, v4, v5⟩ := hi
    rw [v1]
    have E9 : brE C V := (brE.u3.tr brE.u4).tr v5
    have hb : best (plF c w fs ot k (plan c w fs ot true r)) (l - 1) (l - 1 - k) (l, plF c w fs ot k (plan c w fs ot true r) l) = bJ true (plF c w fs ot k (plan c w fs ot true r)) k l := by
      unfold bJ
      rw [if_pos (Eq.refl true)]
    rw [hb] at v3 v4
    have LV : lsC V c.2.1.length k (plan c w fs ot true (r + 1)) := ⟨v2.1, fun j j1 j2 => by
      rw [hs]
      by_cases hj : j = k
      · rw [hj, Nat.sub_self, List.getD_cons_zero]
        exact ⟨v3, v4⟩
      · rw [show j - k = (j - (k + 1)) + 1 by omega, List.getD_cons_succ]
        exact v2.2 j (by omega) j2⟩
    obtain ⟨W, w1, w2, w3⟩ := ih n (nI k + (-1)) (r + 1) V (by omega) (by omega) (fun h9 => by subst h9; decide) (fun j hj => by rw [nI_dec (by omega)]; congr 1; omega) (B.kp E9) LV
    exact ⟨W, w1, w2, E9.tr w3⟩
theorem plan_f : ∀ k, k ≤ c.2.1.length → ∀ m, m < k → ((plan c w fs ot false k).getD m (0, 0)).1 = fst' c w fs ot (c.2.1.length - k + m) := by
  intro k
  induction k with
  | zero => intro _ m h; omega
  | succ k ih =>
    intro hk m hm
    rw [plan_s]
    cases m with
    | succ m =>
      rw [List.getD_cons_succ, ih (by omega) m (by omega)]
      congr 1
      omega
    | zero =>
      rw [List.getD_cons_zero, Nat.add_zero]
      rfl
/-- lines are broken -/
theorem g38_s (h : c.2.1.length < 122) (hw : w ≤ 60) (hf : fs ≤ 1000) (ho : ot ≤ 1000) (hm : ∀ a b, a ≤ b → b ≤ c.2.1.length → cks0 c a ≤ cks0 c b ∧ cks0 c b ≤ 1200) (B : brS C c w fs ot) (hn : c.2.1.length ≠ 0) (ls : Bool) : ∃ C', (if ls = true then g38 8 C else g37 8 C) = some C' ∧ (∀ j, j < c.2.1.length → cI C' 13 j = nI ((plan c w fs ot ls c.2.1.length).getD j (0, 0)).1) ∧ brE C C' := by
  obtain ⟨S, K0, d, ⟨e1, e2, e3⟩, ⟨f1, f2⟩, f3, f4⟩ := id B
  cases ls with
  | false =>
    rw [if_neg (by decide)]
    obtain ⟨V, v1, v2, v3⟩ := g37_s h hw hf ho hm c.2.1.length xFuel 0 C (by omega) (pFuel _ (by omega)) B (fun j hj => absurd hj (Nat.not_lt_zero _))
    refine ⟨V, v1, fun j hj => ?_, v2⟩
    rw [plan_f _ (Nat.le_refl _) j hj, v3 j hj]
    congr 2
    omega
  | true =>
    rw [if_pos (Eq.refl true)]
    unfold g38
    rw [f3]
    simp only [bS]
    rw [K0.2.1, cSt_n (n := 122) h f4 (by decide)]
    simp only [bS]
    have B1 : brS (uI C 14 c.2.1.length 0) c w fs ot := B.kp brE.u4
    rw [B1.2.1.2.1, nI_s1 (by omega)]
    obtain ⟨V, v1, v2, v3⟩ := g38_l h hw hf ho hm c.2.1.length xFuel (nI (c.2.1.length - 1)) 0 _ (by omega) (pFuel _ (by omega)) (fun h9 => absurd h9 hn) (fun j hj => by rw [hj]; rfl) B1 ⟨by rw [uI_e], fun j j1 j2 => absurd j1 (by omega)⟩
    refine ⟨V, v1, fun j hj => ?_, brE.u4.tr v3⟩
    have := (v2.2 j (Nat.zero_le _) hj).1
    rwa [Nat.sub_zero] at this
end PC38
