section PC39
variable {C C' C1 C2 D : xC} {c : Ck} {fs ot w p : Nat} {P : Nat → Prop}
/-- badness of a line and of what comes behind it -/
theorem plan_sum {ls : Bool} : ∀ k, k ≤ c.2.1.length → ∀ m, m < k → ((plan c w fs ot ls k).getD m (0, 0)).2 = bdn c w fs ot (c.2.1.length - k + m) ((plan c w fs ot ls k).getD m (0, 0)).1 + ((plan c w fs ot ls k).getD (((plan c w fs ot ls k).getD m (0, 0)).1 - (c.2.1.length - k)) (0, 0)).2 ∧ c.2.1.length - k + m < ((plan c w fs ot ls k).getD m (0, 0)).1 := by
  intro k
  induction k with
  | zero => intro _ m h; omega
  | succ k ih =>
    intro hk m hm
    rw [plan_s]
    cases m with
    | succ m =>
      obtain ⟨h1, h2⟩ := ih (by omega) m (by omega)
      rw [List.getD_cons_succ, show ((plan c w fs ot ls k).getD m (0, 0)).1 - (c.2.1.length - (k + 1)) = (((plan c w fs ot ls k).getD m (0, 0)).1 - (c.2.1.length - k)) + 1 by omega, List.getD_cons_succ, show c.2.1.length - (k + 1) + (m + 1) = c.2.1.length - k + m by omega]
      exact ⟨h1, h2⟩
    | zero =>
      rw [List.getD_cons_zero, Nat.add_zero]
      have f1 := fill_ge (c := c) (w := w) (fs := fs) (ot := ot) (c.2.1.length - (k + 1)) (c.2.1.length - (c.2.1.length - (k + 1) + 1)) (c.2.1.length - (k + 1) + 1)
      rw [show fill c w fs ot (c.2.1.length - (k + 1)) (c.2.1.length - (k + 1) + 1) (c.2.1.length - (c.2.1.length - (k + 1) + 1)) = fst' c w fs ot (c.2.1.length - (k + 1)) from rfl] at f1
      obtain ⟨x, h1, h2, h3⟩ := bJ_in ls (plF c w fs ot (c.2.1.length - (k + 1)) (plan c w fs ot ls k)) (i := c.2.1.length - (k + 1)) (J := fst' c w fs ot (c.2.1.length - (k + 1))) (by omega)
      rw [h3]
      dsimp only
      refine ⟨?_, h1⟩
      rw [show x - (c.2.1.length - (k + 1)) = (x - (c.2.1.length - (k + 1) + 1)) + 1 by omega, List.getD_cons_succ]
      rfl
theorem brS.eq (B : brS C c w fs ot) (E : eqO P C C') (h : ∀ a, 8 ≤ a → a ≤ 14 → P a) : brS C' c w fs ot := by
  obtain ⟨⟨a1, a2, a3⟩, ⟨b1, b2, b3⟩, d, ⟨e1, e2, e3⟩, ⟨f1, f2⟩, h1, h2⟩ := B
  have x8 := E 8 (h 8 (by decide) (by decide))
  have x12 := E 12 (h 12 (by decide) (by decide))
  exact ⟨⟨by rw [x8.2.1]; exact a1, by rw [x8.2.1]; exact a2, by rw [x12.2.2]; exact a3⟩, ⟨b1.kp E (h 10 (by decide) (by decide)) (h 11 (by decide) (by decide)), by rw [x8.1]; exact b2, fun i hi => by rw [x12.1]; exact b3 i hi⟩, by rw [x12.1]; exact d, ⟨by rw [x8.1]; exact e1, by rw [x8.1]; exact e2, by rw [x8.1]; exact e3⟩, ⟨by rw [x8.2.1]; exact f1, by rw [(E 13 (h 13 (by decide) (by decide))).2.2]; exact f2⟩, by rw [x8.2.1]; exact h1, by rw [(E 14 (h 14 (by decide) (by decide))).2.2]; exact h2⟩
/-- the frame of writing lines -/
def pvE (p : Nat) (C C' : xC) : Prop := eqO (fun a => a ≠ p ∧ a ≠ p + 1 ∧ a ≠ p + 2 ∧ a ≠ p + 3) C C' ∧ (∀ k, cR C' p k = cR C p k) ∧ cI C' p 4 = cI C p 4 ∧ (cK C' p = cK C p ∧ cK C' (p + 3) = cK C (p + 3)) ∧ sm C C'
theorem pvE.rfl' : pvE p C C := ⟨eqO.rfl', fun _ => rfl, rfl, ⟨rfl, rfl⟩, sm.rfl'⟩
theorem pvE.tr (a : pvE p C C1) (b : pvE p C1 C2) : pvE p C C2 := ⟨a.1.tr b.1, fun k => (b.2.1 k).trans (a.2.1 k), b.2.2.1.trans a.2.2.1, ⟨b.2.2.2.1.1.trans a.2.2.2.1.1, b.2.2.2.1.2.trans a.2.2.2.1.2⟩, a.2.2.2.2.tr b.2.2.2.2⟩
theorem pwE.v (a : pwE p C C1) : pvE p C C1 := ⟨a.1, a.2.1, a.2.2.1, a.2.2.2.2.1, a.2.2.2.2.2⟩
theorem pgW.u5 {o : Ou} {l : List Nat} {v : Int32} (W : pgW C p o l) : pgW (uI C p 5 v) p o l := by
  obtain ⟨⟨S, hw⟩, W⟩ := W
  have O : eqO (fun a => a ≠ p) C (uI C p 5 v) := eqO.uI (fun h9 => h9 rfl)
  refine ⟨⟨S.u, hw⟩, ?_⟩
  rcases W with ⟨t, ⟨n1, n2⟩, n6, n7, n8⟩ | ⟨n8, ⟨bs, t⟩, ⟨n, hn, n3⟩, hl⟩
  · exact Or.inl ⟨t.kp O (by omega) (by omega), ⟨by rw [uI_n (by omega)]; exact n1, fun i hi => by rw [uI_n (by omega)]; exact n2 i hi⟩, by rw [uI_n (by omega)]; exact n6, by rw [uI_n (by omega)]; exact n7, by rw [uI_n (by omega)]; exact n8⟩
  · exact Or.inr ⟨by rw [uI_n (by omega)]; exact n8, ⟨bs, t.kp O (by omega) (by omega)⟩, ⟨n, hn, by rw [uI_n (by omega)]; exact n3⟩, hl⟩
theorem pvE.u5 {v : Int32} : pvE p C (uI C p 5 v) := ⟨eqO.uI (fun h9 => h9.1 rfl), fun _ => rfl, by rw [uI_n (by omega)], ⟨rfl, rfl⟩, rfl, rfl⟩
/-- the chunks of a line behind the first -/
theorem g39_n (hp : 20 ≤ p) (h : c.2.1.length < 122) (hw : w ≤ 60) (hf : fs ≤ 1000) (ho : ot ≤ 1000) (hM : ckM c) (h12 : c.1.length ≤ 1200) {o : Ou} (hol : o.2.2 < 2 ^ 31) {i J : Nat} (hij : i < J) (hJ : J ≤ c.2.1.length) (l0 : List Nat) (K : Nat → Option Nat → Int32 → Int32 → xC → Option xC) (ln : Nat) : ∀ m n k (C : xC), k + m = J - i → m < n → brS C c w fs ot → pgW C p o (l0 ++ (List.range k).flatMap (lnC c i)) → 0 < k → ∃ C', gl39_77 K n 8 (some p) (nI i) (nI ln) (nI J) (nI (i + k)) C = K 8 (some p) (nI J) (nI (ln + 1)) C' ∧ pgW C' p (ouL o (l0 ++ lnB c i J)) [] ∧ cI C' p 5 = cI C p 5 + nI (bdn c w fs ot i J) ∧ pvE p C C' := by
  have hm : ∀ a b, a ≤ b → b ≤ c.2.1.length → cks0 c a ≤ cks0 c b ∧ cks0 c b ≤ 1200 := fun a b hab hb => by
    have h1 := hM.m (b - a) a (by omega)
    rw [show a + (b - a) = b by omega] at h1
    exact ⟨h1, Nat.le_trans hM.le h12⟩
  have o8 : ∀ a, 8 ≤ a → a ≤ 14 → (fun a => a ≠ p ∧ a ≠ p + 1 ∧ a ≠ p + 2 ∧ a ≠ p + 3) a := fun a h1 h2 => ⟨by omega, by omega, by omega, by omega⟩
  intro m
  induction m with
  | zero =>
    intro n k C hk hn B W hk0
    obtain ⟨n, rfl⟩ : ∃ x, n = x + 1 := ⟨n - 1, by omega⟩
    rw [gl39_77]
    dsimp only
    rw [if_pos (nI_le (by omega) (by omega))]
    simp only [bS]
    obtain ⟨V, v1, v2, v3⟩ := g56_s W hol
    rw [v1]
    simp only [bS]
    obtain ⟨S, K0, d, ⟨e1, e2, e3⟩, ⟨f1, f2⟩, f3, f4⟩ := B.eq v3.1 o8
    rw [g36_s S K0 h d e1 e2 e3 hw hf ho hm hij hJ]
    simp only [bS]
    rw [nI_1]
    refine ⟨_, Eq.refl _, ?_, ?_, v3.v.tr pvE.u5⟩
    · rw [lnB_eq, show J - i = k by omega]
      exact v2.u5
    · rw [uI_e, v3.2.2.2.1]
  | succ m ih =>
    intro n k C hk hn B W hk0
    obtain ⟨n, rfl⟩ : ∃ x, n = x + 1 := ⟨n - 1, by omega⟩
    rw [gl39_77]
    dsimp only
    rw [if_neg (nI_ge (by omega) (by omega))]
    simp only [bS]
    obtain ⟨V, v1, v2, v3⟩ := g52_s W (c := 32) (by decide)
    rw [show (32 : Int32) = nI 32 from rfl, v1]
    simp only [bS]
    have BV := B.eq v3.1 o8
    obtain ⟨S, K0, d, _⟩ := id BV
    rw [g34_s S K0 h d (by omega)]
    simp only [bS]
    rw [nI_1 (i + k), g34_s S K0 h d (by omega)]
    simp only [bS]
    rw [S.1]
    obtain ⟨U, u1, u2, u3⟩ := g54_o (p := p) ⟨⟨by omega, by omega, by omega, by omega⟩, by omega, by omega, by omega, by omega⟩ (by decide) (hM.s (i := i + k) (by omega)) hM.le K0.1 v2
    rw [u1]
    simp only [bS]
    have e9 : l0 ++ (List.range k).flatMap (lnC c i) ++ [32] ++ cut c.1 (cks0 c (i + k)) (cks0 c (i + k + 1)) = l0 ++ (List.range (k + 1)).flatMap (lnC c i) := by
      rw [List.range_succ, List.flatMap_append, List.flatMap_singleton]
      unfold lnC
      rw [if_neg (by omega)]
      simp only [List.append_assoc]
    rw [e9] at u2
    obtain ⟨X, x1, x2, x3, x4⟩ := ih n (k + 1) U (by omega) (by omega) (BV.eq u3.1 o8) u2 (by omega)
    rw [show i + k + 1 = i + (k + 1) by omega]
    refine ⟨X, x1, x2, ?_, (v3.v.tr u3.v).tr x4⟩
    rw [x3, u3.2.2.2.1, v3.2.2.2.1]
/-- a line -/
theorem g39_1 (hp : 20 ≤ p) (h : c.2.1.length < 122) (hw : w ≤ 60) (hf : fs ≤ 1000) (ho : ot ≤ 1000) (hM : ckM c) (h12 : c.1.length ≤ 1200) {o : Ou} (hol : o.2.2 < 2 ^ 31) {i J : Nat} (hij : i < J) (hJ : J ≤ c.2.1.length) (l0 : List Nat) (K : Nat → Option Nat → Int32 → Int32 → xC → Option xC) (ln : Nat) (B : brS C c w fs ot) (W : pgW C p o l0) : ∃ C', gj39_52 K 8 (some p) (nI i) (nI ln) (nI J) C = K 8 (some p) (nI J) (nI (ln + 1)) C' ∧ pgW C' p (ouL o (l0 ++ lnB c i J)) [] ∧ cI C' p 5 = cI C p 5 + nI (bdn c w fs ot i J) ∧ pvE p C C' := by
  have o8 : ∀ a, 8 ≤ a → a ≤ 14 → (fun a => a ≠ p ∧ a ≠ p + 1 ∧ a ≠ p + 2 ∧ a ≠ p + 3) a := fun a h1 h2 => ⟨by omega, by omega, by omega, by omega⟩
  obtain ⟨S, K0, d, _⟩ := id B
  unfold gj39_52
  rw [g34_s S K0 h d (by omega)]
  simp only [bS]
  rw [nI_1 i, g34_s S K0 h d (by omega)]
  simp only [bS]
  rw [S.1]
  obtain ⟨U, u1, u2, u3⟩ := g54_o (p := p) ⟨⟨by omega, by omega, by omega, by omega⟩, by omega, by omega, by omega, by omega⟩ (by decide) (hM.s (i := i) (by omega)) hM.le K0.1 W
  rw [u1]
  simp only [bS]
  have e9 : l0 ++ cut c.1 (cks0 c i) (cks0 c (i + 1)) = l0 ++ (List.range 1).flatMap (lnC c i) := by
    rw [show List.range 1 = [0] from rfl, List.flatMap_singleton]
    unfold lnC
    rw [if_pos rfl]
    rfl
  rw [e9] at u2
  obtain ⟨X, x1, x2, x3, x4⟩ := g39_n hp h hw hf ho hM h12 hol hij hJ l0 K ln (J - i - 1) xFuel 1 U (by omega) (pFuel _ (by omega)) (B.eq u3.1 o8) u2 (by decide)
  refine ⟨X, x1, x2, ?_, u3.v.tr x4⟩
  rw [x3, u3.2.2.2.1]
/-- the lines behind the first -/
theorem g39_l (hp : 20 ≤ p) (h : c.2.1.length < 122) (hw : w ≤ 60) (hf : fs ≤ 1000) (ho : ot ≤ 10) (hM : ckM c) (h7 : c.1.length ≤ 700) {t : List (Nat × Nat)} (htl : t.length = c.2.1.length) (ht : ∀ i, i < c.2.1.length → i < (t.getD i (0, 0)).1 ∧ (t.getD i (0, 0)).1 ≤ c.2.1.length) (hs : ∀ i, i < c.2.1.length → (t.getD i (0, 0)).2 = bdn c w fs ot i (t.getD i (0, 0)).1 + (t.getD (t.getD i (0, 0)).1 (0, 0)).2) : ∀ m n i ln (o : Ou) s (C : xC), c.2.1.length < i + m → m < n → 0 < i → i ≤ c.2.1.length → ln ≤ i → ouW o → o.1.length + 840 * m < 2 ^ 25 → brS C c w fs ot → (∀ j, j < c.2.1.length → cI C 13 j = nI (t.getD j (0, 0)).1) → pgW C p o [] → cI C p 5 = nI s → ∃ C', gl39_15 n 8 (some p) (nI i) (nI ln) C = some C' ∧ pgW C' p (lns c ot t m i o) [] ∧ cI C' p 5 = nI (s + (t.getD i (0, 0)).2) ∧ pvE p C C' := by
  have o8 : ∀ a, 8 ≤ a → a ≤ 14 → (fun a => a ≠ p ∧ a ≠ p + 1 ∧ a ≠ p + 2 ∧ a ≠ p + 3) a := fun a h1 h2 => ⟨by omega, by omega, by omega, by omega⟩
  intro m
  induction m with
  | zero => intro n i ln o s C h1 _ _ h2; omega
  | succ m ih =>
    intro n i ln o s C hi hn i0 hil hln how hol B L W h5
    obtain ⟨n, rfl⟩ : ∃ x, n = x + 1 := ⟨n - 1, by omega⟩
    obtain ⟨S, K0, d, ⟨e1, e2, e3⟩, ⟨f1, f2⟩, f3, f4⟩ := id B
    have how2 := how.2
    rw [gl39_15, lns]
    dsimp only
    rw [S.2.1]
    simp only [bS]
    rw [S.2.2, if_neg (show ¬ Int32.ofNat 122 ≤ nI ln from nI_ge (b := 122) (by omega) (by decide)), K0.2.1]
    by_cases h9 : c.2.1.length ≤ i
    · rw [if_pos (nI_le h9 (by omega)), if_pos h9, List.getD_eq_getElem?_getD, List.getElem?_eq_none (by omega)]
      exact ⟨C, rfl, W, h5, pvE.rfl'⟩
    · rw [if_neg (nI_ge (by omega) (by omega)), if_neg h9, f1]
      simp only [bS]
      rw [cLd_n (n := 122) (by omega) f2 (by decide), L i (by omega)]
      simp only [bS]
      rw [if_neg (show ¬ nI i ≤ 0 from nI_ge (a := 0) (b := i) i0 (by omega)), e2]
      obtain ⟨t1, t2⟩ := ht i (by omega)
      have hsi := hs i (by omega)
      rw [hsi]
      generalize hJ : (t.getD i (0, 0)).1 = J at t1 t2 hsi ⊢
      obtain ⟨V, v1, v2, v3⟩ := g53_s (p := p) (o := o) ot xFuel 0 C [] ot (by omega) (pFuel _ (by omega)) (by omega) W
      rw [show g53 p (nI ot) C = some V from v1]
      simp only [bS]
      obtain ⟨X, x1, x2, x3, x4⟩ := g39_1 hp h hw hf (by omega) hM (by omega) (show o.2.2 < 2 ^ 31 by omega) t1 t2 _ (gl39_15 n) ln (B.eq v3.1 o8) v2
      rw [x1, if_neg (by omega)]
      rw [List.nil_append] at x2
      have ll := lnB_len hM h7 (by omega) (i := i) t2 (by omega)
      obtain ⟨Y, y1, y2, y3, y4⟩ := ih n J (ln + 1) (ouL o (List.replicate ot 32 ++ lnB c i J)) (s + bdn c w fs ot i J) X (by omega) (by omega) (by omega) t2 (by omega) (ouL_w how _) (by rw [ouL_len, List.length_append, List.length_replicate]; omega) ((B.eq v3.1 o8).eq x4.1 o8) (fun j hj => by rw [(x4.1 13 (o8 13 (by decide) (by decide))).1, (v3.1 13 (o8 13 (by decide) (by decide))).1]; exact L j hj) x2 (by rw [x3, v3.2.2.2.1, h5, nI_add])
      refine ⟨Y, y1, y2, ?_, (v3.v.tr x4).tr y4⟩
      rw [y3, Nat.add_assoc]
/-- the lines of a block -/
theorem g39_s (hp : 20 ≤ p) (h : c.2.1.length < 122) (hw : w ≤ 60) (hf : fs ≤ 1000) (ho : ot ≤ 10) (hM : ckM c) (h7 : c.1.length ≤ 700) {t : List (Nat × Nat)} (htl : t.length = c.2.1.length) (ht : ∀ i, i < c.2.1.length → i < (t.getD i (0, 0)).1 ∧ (t.getD i (0, 0)).1 ≤ c.2.1.length) (hs : ∀ i, i < c.2.1.length → (t.getD i (0, 0)).2 = bdn c w fs ot i (t.getD i (0, 0)).1 + (t.getD (t.getD i (0, 0)).1 (0, 0)).2) {o : Ou} {l0 : List Nat} {s : Nat} (how : ouW o) (hol : o.1.length < 2 ^ 24) (hl0 : l0.length ≤ 20) (B : brS C c w fs ot) (L : ∀ j, j < c.2.1.length → cI C 13 j = nI (t.getD j (0, 0)).1) (hn : c.2.1.length ≠ 0) (W : pgW C p o l0) (h5 : cI C p 5 = nI s) : ∃ C', g39 8 (some p) C = some C' ∧ pgW C' p (lns c ot t 130 (t.getD 0 (0, 0)).1 (ouL o (l0 ++ lnB c 0 (t.getD 0 (0, 0)).1))) [] ∧ cI C' p 5 = nI (s + (t.getD 0 (0, 0)).2) ∧ pvE p C C' := by
  have o8 : ∀ a, 8 ≤ a → a ≤ 14 → (fun a => a ≠ p ∧ a ≠ p + 1 ∧ a ≠ p + 2 ∧ a ≠ p + 3) a := fun a h1 h2 => ⟨by omega, by omega, by omega, by omega⟩
  obtain ⟨S, K0, d, ⟨e1, e2, e3⟩, ⟨f1, f2⟩, f3, f4⟩ := id B
  have how2 := how.2
  obtain ⟨t1, t2⟩ := ht 0 (by omega)
  have hsi := hs 0 (by omega)
  obtain ⟨N, hN, hN2⟩ : ∃ N, xFuel = N + 1 ∧ 200000 < N := ⟨999999, rfl, by decide⟩
  unfold g39 gj39_11
  rw [K0.2.1, if_neg (nI_ne0 (by omega) (by omega)), hN, gl39_15]
  dsimp only
  rw [S.2.1]
  simp only [bS]
  rw [S.2.2, if_neg (show ¬ Int32.ofNat 122 ≤ 0 by decide), K0.2.1, if_neg (show ¬ nI c.2.1.length ≤ 0 from nI_ge (a := 0) (by omega) (by omega)), f1]
  simp only [bS]
  rw [show cLd C 13 0 = cLd C 13 (nI 0) from rfl, cLd_n (n := 122) (by omega) f2 (by decide), L 0 (by omega)]
  simp only [bS]
  rw [if_pos (show (0 : Int32) ≤ 0 by decide), hsi]
  generalize hJ : (t.getD 0 (0, 0)).1 = J at t1 t2 hsi ⊢
  obtain ⟨X, x1, x2, x3, x4⟩ := g39_1 hp h hw hf (by omega) hM (by omega) (show o.2.2 < 2 ^ 31 by omega) t1 t2 l0 (gl39_15 N) 0 B W
  rw [show gj39_52 (gl39_15 N) 8 (some p) 0 0 (nI J) C = gj39_52 (gl39_15 N) 8 (some p) (nI 0) (nI 0) (nI J) C from Eq.refl _, x1]
  have ll := lnB_len hM h7 (by omega) (i := 0) t2 (by omega)
  obtain ⟨Y, y1, y2, y3, y4⟩ := g39_l hp h hw hf ho hM h7 htl ht hs 130 N J (0 + 1) (ouL o (l0 ++ lnB c 0 J)) (s + bdn c w fs ot 0 J) X (by omega) (by omega) (by omega) t2 (by omega) (ouL_w how _) (by rw [ouL_len, List.length_append]; omega) (B.eq x4.1 o8) (fun j hj => by rw [(x4.1 13 (o8 13 (by decide) (by decide))).1]; exact L j hj) x2 (by rw [x3, h5, nI_add])
  refine ⟨Y, y1, y2, ?_, x4.tr y4⟩
  rw [y3, Nat.add_assoc]
end PC39
