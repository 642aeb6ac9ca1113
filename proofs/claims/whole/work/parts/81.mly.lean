section PMLY
variable {S : mS} {c : Ck} {w fs ot : Nat} {ls : Bool} {by' st : List Nat} {lg : Nat}
abbrev lyD (S S' : mS) : Prop := df [45, 47, 49] [44, 46] S S'
def dO (S : mS) (o : Ou) : Prop := dS S o.1 o.2.1 o.2.2
def ouW (o : Ou) : Prop := o.2.1.length ≤ o.1.length ∧ o.2.2 ≤ o.1.length
theorem ouL_w {o : Ou} (h : ouW o) (l : List Nat) : ouW (ouL o l) := by
  obtain ⟨h1, h2⟩ := h
  unfold ouL
  refine ⟨by simp; omega, ?_⟩
  dsimp only
  rw [List.length_append, List.length_append, List.length_singleton]
  split <;> omega
theorem ouL_len {o : Ou} (l : List Nat) : (ouL o l).1.length = o.1.length + l.length + 1 := by
  unfold ouL
  simp
  omega
/-- the end of a line in which l has been said -/
theorem g198_o {o : Ou} (h : ouW o) {l : List Nat} (D : dS S (o.1 ++ l) (o.2.1 ++ [o.1.length]) o.2.2) (hb : o.1.length + l.length < 2 ^ 30) : ∃ S', g198 S = some S' ∧ dO S' (ouL o l) ∧ df [45, 49] [44] S S' := by
  obtain ⟨h1, h2⟩ := h
  have e : (o.1 ++ l).length = o.1.length + l.length := by simp
  obtain ⟨U, u1, u2, u3⟩ := g198_s D (by omega) (by omega) (by omega) (by omega)
  refine ⟨U, u1, ?_, u3⟩
  unfold dO ouL
  dsimp only
  rw [e, Nat.add_sub_cancel_left] at u2
  exact u2
/-- the bytes of a chunk -/
theorem g211_c (hM : ckM c) (h1 : c.1.length ≤ 700) (h2 : c.2.1.length ≤ 121) {k : Nat} (hk : k < c.2.1.length) (k103 : Int32 → Int32 → Int32 → Int32 → Int32 → Int32 → Int32 → Int32 → Int32 → mS → Option mS) (k257 : Int32 → Int32 → Int32 → Int32 → Int32 → Int32 → Int32 → Int32 → Int32 → Int32 → Int32 → Int32 → mS → Option mS) (x1 x2 x3 x4 x5 x6 x7 x8 x9 x10 x11 : Int32) (hb : by'.length < 2 ^ 28) : ∀ m n j (S : mS), j + m = cks0 c (k + 1) - cks0 c k → m < n → cS S c.1 c.2.1 → dS S (by' ++ cut c.1 (cks0 c k) (cks0 c k + j)) st lg → ∃ S', gl211_283 k103 k257 n x1 x2 x3 x4 x5 x6 x7 x8 x9 x10 x11 (nI k) (nI j) S = k257 x1 x2 x3 x4 x5 x6 x7 x8 x9 x10 x11 (nI (k + 1)) S' ∧ dS S' (by' ++ cut c.1 (cks0 c k) (cks0 c (k + 1))) st lg ∧ syD S S' := by
  have hs := hM.s hk
  have hl := hM.le (i := k + 1)
  intro m
  induction m with
  | zero =>
    intro n j S hj hn C D
    obtain ⟨n, rfl⟩ : ∃ k, n = k + 1 := ⟨n - 1, by omega⟩
    rw [gl211_283]
    dsimp only
    rw [g208_s C hM h1 h2 hk]
    simp only [bS]
    rw [if_pos (nI_le (by omega) (by omega)), nI_1]
    rw [show cks0 c k + j = cks0 c (k + 1) by omega] at D
    exact ⟨S, rfl, D, df.rfl'⟩
  | succ m ih =>
    intro n j S hj hn C D
    obtain ⟨n, rfl⟩ : ∃ k, n = k + 1 := ⟨n - 1, by omega⟩
    have e1 : (cut c.1 (cks0 c k) (cks0 c k + j)).length = j := by rw [cut_len (by omega)]; omega
    rw [gl211_283]
    dsimp only
    rw [g208_s C hM h1 h2 hk]
    simp only [bS]
    rw [if_neg (nI_ge (by omega) (by omega)), ld_62 (by omega), C.2.2 k hk, ← cks0_in hk]
    simp only [bS]
    rw [nI_add, ld_60 (by omega), C.1.2 (cks0 c k + j) (by omega)]
    simp only [bS]
    obtain ⟨T, t1, t2, t3⟩ := g195_s D (by rw [List.length_append, e1]; omega) (c.1.getD (cks0 c k + j) 0)
    rw [t1]
    simp only [bS, nI_1]
    have e2 : by' ++ cut c.1 (cks0 c k) (cks0 c k + j) ++ [c.1.getD (cks0 c k + j) 0] = by' ++ cut c.1 (cks0 c k) (cks0 c k + (j + 1)) := by
      rw [← Nat.add_assoc, cut_s (by omega) (by omega), List.append_assoc]
      congr 3
      simp only [tx, List.getD_eq_getElem?_getD, List.getElem?_eq_getElem (show cks0 c k + j < c.1.length by omega), Option.getD_some]
    rw [e2] at t2
    obtain ⟨U, u1, u2, u3⟩ := ih n (j + 1) T (by omega) (by omega) (cS_df t3 (by decide) C) t2
    exact ⟨U, u1, u2, t3.tr u3⟩
/-- chunk k of a line -/
def lnC (c : Ck) (i k : Nat) : List Nat := (if k = 0 then [] else [32]) ++ cut c.1 (cks0 c (i + k)) (cks0 c (i + k + 1))
theorem lnB_eq (i j : Nat) : lnB c i j = (List.range (j - i)).flatMap (lnC c i) := rfl
theorem lnC_len (hM : ckM c) (i : Nat) : ∀ m, i + m ≤ c.2.1.length → ((List.range m).flatMap (lnC c i)).length ≤ (cks0 c (i + m) - cks0 c i) + m := by
  intro m
  induction m with
  | zero => intro _; simp
  | succ m ih =>
    intro hm
    have h1 := ih (by omega)
    have h2 := hM.m m i (by omega)
    have h3 := hM.s (i := i + m) (by omega)
    have h4 := cut_le (bs := c.1) (a := cks0 c (i + m)) (z := cks0 c (i + m + 1))
    rw [List.range_succ, List.flatMap_append, List.length_append, show i + (m + 1) = i + m + 1 by omega]
    have h5 : (List.flatMap (lnC c i) [m]).length ≤ 1 + (cks0 c (i + m + 1) - cks0 c (i + m)) := by
      simp only [List.flatMap_cons, List.flatMap_nil, List.append_nil]
      unfold lnC
      rw [List.length_append]
      split <;> simp <;> omega
    omega
/-- the chunks of a line -/
theorem g211_n (hM : ckM c) (h1 : c.1.length ≤ 700) (h2 : c.2.1.length ≤ 121) {o : Ou} (ho : ouW o) (hb : o.1.length < 2 ^ 26) {i J : Nat} (hiJ : i ≤ J) (hJ : J ≤ c.2.1.length) (l0 : List Nat) (hl0 : l0.length ≤ 20) (k103 : Int32 → Int32 → Int32 → Int32 → Int32 → Int32 → Int32 → Int32 → Int32 → mS → Option mS) (x1 x2 x3 x4 x5 x6 x7 x9 x10 : Int32) : ∀ m n k (S : mS), k + m = J - i → m < n → cS S c.1 c.2.1 → dS S (o.1 ++ (l0 ++ (List.range k).flatMap (lnC c i))) (o.2.1 ++ [o.1.length]) o.2.2 → ∃ S', gl211_257 k103 n x1 x2 x3 x4 x5 x6 x7 (nI i) x9 x10 (nI (J - i)) (nI (i + k)) S = k103 x1 x2 x3 x4 x5 x6 x7 (nI J) 0 S' ∧ dO S' (ouL o (l0 ++ lnB c i J)) ∧ lyD S S' := by
  intro m
  induction m with
  | zero =>
    intro n k S hk hn C D
    obtain ⟨n, rfl⟩ : ∃ k, n = k + 1 := ⟨n - 1, by omega⟩
    have hlen := lnC_len hM i k (by omega)
    have hle := hM.le (i := i + k)
    rw [gl211_257]
    dsimp only
    rw [nI_add, show i + (J - i) = J by omega, if_pos (nI_le (by omega) (by omega))]
    rw [show k = J - i by omega, ← lnB_eq] at D hlen
    have hle2 := hM.le (i := i + (J - i))
    obtain ⟨T, t1, t2, t3⟩ := g198_o ho D (by rw [List.length_append]; omega)
    rw [t1]
    simp only [bS]
    exact ⟨T, rfl, t2, t3.mono (by decide) (by decide)⟩
  | succ m ih =>
    intro n k S hk hn C D
    obtain ⟨n, rfl⟩ : ∃ k, n = k + 1 := ⟨n - 1, by omega⟩
    have hlen := lnC_len hM i k (by omega)
    have hle := hM.le (i := i + k)
    rw [gl211_257]
    dsimp only
    rw [nI_add, show i + (J - i) = J by omega, if_neg (nI_ge (by omega) (by omega))]
    -- the chunk's bytes
    have go : ∀ (T : mS) (b2 : List Nat), b2 = o.1 ++ (l0 ++ (List.range k).flatMap (lnC c i)) ++ (if k = 0 then [] else [32]) → syD S T → dS T b2 (o.2.1 ++ [o.1.length]) o.2.2 → ∃ S', gj211_280 k103 (gl211_257 k103 n) x1 x2 x3 x4 x5 x6 x7 (nI i) x9 x10 (nI (J - i)) (nI (i + k)) T = k103 x1 x2 x3 x4 x5 x6 x7 (nI J) 0 S' ∧ dO S' (ouL o (l0 ++ lnB c i J)) ∧ lyD S S' := by
      intro T b2 hb2 DT dT
      have CT := cS_df DT (by decide) C
      have lb2 : b2.length < 2 ^ 28 := by
        have h9 : (if k = 0 then ([] : List Nat) else [32]).length ≤ 1 := by split <;> simp
        rw [hb2, List.length_append, List.length_append, List.length_append]
        omega
      unfold gj211_280
      obtain ⟨U, u1, u2, u3⟩ := g211_c (by' := b2) (st := o.2.1 ++ [o.1.length]) (lg := o.2.2) hM h1 h2 (show i + k < c.2.1.length by omega) k103 (gl211_257 k103 n) x1 x2 x3 x4 x5 x6 x7 (nI i) x9 x10 (nI (J - i)) lb2 (cks0 c (i + k + 1) - cks0 c (i + k)) xFuel 0 T (by omega) (pFuel _ (by have := hM.le (i := i + k + 1); omega)) CT (by rw [Nat.add_zero, cut_e, List.append_nil]; exact dT)
      rw [show (0 : Int32) = nI 0 from rfl, u1]
      have e5 : b2 ++ cut c.1 (cks0 c (i + k)) (cks0 c (i + k + 1)) = o.1 ++ (l0 ++ (List.range (k + 1)).flatMap (lnC c i)) := by
        rw [hb2, List.range_succ, List.flatMap_append]
        simp only [List.flatMap_cons, List.flatMap_nil, List.append_nil]
        unfold lnC
        simp only [List.append_assoc]
      rw [e5] at u2
      obtain ⟨V, v1, v2, v3⟩ := ih n (k + 1) U (by omega) (by omega) (cS_df u3 (by decide) CT) u2
      rw [← Nat.add_assoc] at v1
      exact ⟨V, v1, v2, ((DT.tr u3).mono (by decide) (by decide)).tr v3⟩
    by_cases h0 : k = 0
    · rw [if_pos (nI_le (by omega) (by omega))]
      exact go S _ (by rw [if_pos h0, List.append_nil]) df.rfl' D
    · rw [if_neg (nI_ge (by omega) (by omega))]
      obtain ⟨T, t1, t2, t3⟩ := g195_s D (by rw [List.length_append, List.length_append]; omega) 32
      rw [show (32 : Int32) = nI 32 from rfl, t1]
      simp only [bS]
      exact go T _ (by rw [if_neg h0]) t3 t2
/-- what stands at k of the indent -/
def outI (item bg : Bool) (ind n k : Nat) : List Nat := if (item && bg && decide (k + 1 = ind) && decide (n = 0)) = true then [] else [if (item && bg && decide (k + 2 = ind)) = true then 45 else 32]
theorem outI_len (item bg : Bool) (ind n : Nat) : ∀ m, ((List.range m).flatMap (outI item bg ind n)).length ≤ m := by
  intro m
  induction m with
  | zero => simp
  | succ m ih =>
    rw [List.range_succ, List.flatMap_append, List.length_append]
    have : (List.flatMap (outI item bg ind n) [m]).length ≤ 1 := by
      simp only [List.flatMap_cons, List.flatMap_nil, List.append_nil]
      unfold outI
      split <;> simp
    omega
/-- the indent -/
theorem g211_t {n0 : Nat} {item bg : Bool} {ind : Nat} (hind : ind ≤ 10) (h2i : item = true → bg = true → 2 ≤ ind) (k103 : Int32 → Int32 → Int32 → Int32 → Int32 → Int32 → Int32 → Int32 → Int32 → mS → Option mS) (x1 x2 x3 x4 x6 x7 : Int32) (i : Nat) (hb : by'.length < 2 ^ 28) : ∀ m n k (S : mS), k + m = ind → m < n → S.1 63 = nI n0 → n0 ≤ 121 → dS S (by' ++ (List.range k).flatMap (outI item bg ind n0)) st lg → ∃ S', gl211_138 k103 n x1 x2 x3 x4 (bZ item) x6 x7 (nI i) (bZ bg) (nI ind) (nI k) S = (if (S'.1 63) ≤ (nI i) then gj211_251 k103 x1 x2 x3 x4 (bZ item) x6 x7 (nI i) (bZ bg) (nI ind) (nI ind) 0 S' else (sLd S' 64 (nI i)).bind fun v_3 => gj211_251 k103 x1 x2 x3 x4 (bZ item) x6 x7 (nI i) (bZ bg) (nI ind) (nI ind) v_3 S') ∧ dS S' (by' ++ (List.range ind).flatMap (outI item bg ind n0)) st lg ∧ syD S S' := by
  intro m
  induction m with
  | zero =>
    intro n k S hk hn h63 hn0 D
    obtain ⟨n, rfl⟩ : ∃ k, n = k + 1 := ⟨n - 1, by omega⟩
    rw [gl211_138]
    dsimp only
    rw [if_pos (nI_le (by omega) (by omega)), show k = ind by omega] at *
    exact ⟨S, rfl, D, df.rfl'⟩
  | succ m ih =>
    intro n k S hk hn h63 hn0 D
    obtain ⟨n, rfl⟩ : ∃ k, n = k + 1 := ⟨n - 1, by omega⟩
    have hlen := outI_len item bg ind n0 k
    rw [gl211_138]
    dsimp only
    rw [if_neg (nI_ge (by omega) (by omega))]
    have ih2 := ih n (k + 1)
    rw [List.range_succ, List.flatMap_append, show List.flatMap (outI item bg ind n0) [k] = outI item bg ind n0 k by simp, ← List.append_assoc] at ih2
    -- behind: is it the mark, is it left out
    have go : ∀ mk br : Bool, outI item bg ind n0 k = (if br = true then [] else [if mk = true then 45 else 32]) → ∃ S', gj211_202 k103 (gl211_138 k103 n) x1 x2 x3 x4 (bZ item) x6 x7 (nI i) (bZ bg) (nI ind) (nI k) (bZ mk) (bZ br) S = (if (S'.1 63) ≤ (nI i) then gj211_251 k103 x1 x2 x3 x4 (bZ item) x6 x7 (nI i) (bZ bg) (nI ind) (nI ind) 0 S' else (sLd S' 64 (nI i)).bind fun v_3 => gj211_251 k103 x1 x2 x3 x4 (bZ item) x6 x7 (nI i) (bZ bg) (nI ind) (nI ind) v_3 S') ∧ dS S' (by' ++ (List.range ind).flatMap (outI item bg ind n0)) st lg ∧ syD S S' := by
      intro mk br ho
      unfold gj211_202 gj211_222 gj211_225
      cases br with
      | true =>
        rw [if_neg bZt, nI_1]
        rw [ho, if_pos (Eq.refl true), List.append_nil] at ih2
        exact ih2 S (by omega) (by omega) h63 hn0 D
      | false =>
        rw [if_pos bZf]
        rw [ho, if_neg (show ¬ false = true by decide)] at ih2
        have say : ∀ v : Nat, v = (if mk = true then 45 else 32) → ∃ S', ((g195 (nI v) S).bind fun S_2 => gl211_138 k103 n x1 x2 x3 x4 (bZ item) x6 x7 (nI i) (bZ bg) (nI ind) (nI k + 1) S_2) = (if (S'.1 63) ≤ (nI i) then gj211_251 k103 x1 x2 x3 x4 (bZ item) x6 x7 (nI i) (bZ bg) (nI ind) (nI ind) 0 S' else (sLd S' 64 (nI i)).bind fun v_3 => gj211_251 k103 x1 x2 x3 x4 (bZ item) x6 x7 (nI i) (bZ bg) (nI ind) (nI ind) v_3 S') ∧ dS S' (by' ++ (List.range ind).flatMap (outI item bg ind n0)) st lg ∧ syD S S' := by
          intro v hv
          obtain ⟨T, t1, t2, t3⟩ := g195_s D (by rw [List.length_append]; omega) v
          rw [t1, nI_1]
          simp only [bS]
          rw [hv] at t2
          obtain ⟨U, u1, u2, u3⟩ := ih2 T (by omega) (by omega) (by rw [t3.1 63 (by decide)]; exact h63) hn0 t2
          exact ⟨U, u1, u2, t3.tr u3⟩
        cases mk with
        | true =>
          rw [if_neg bZt]
          exact say 45 rfl
        | false =>
          rw [if_pos bZf]
          exact say 32 rfl
    have bare : ∀ mk : Bool, mk = (item && bg && decide (k + 2 = ind)) → ∃ S', gj211_169 k103 (gl211_138 k103 n) x1 x2 x3 x4 (bZ item) x6 x7 (nI i) (bZ bg) (nI ind) (nI k) (bZ mk) S = (if (S'.1 63) ≤ (nI i) then gj211_251 k103 x1 x2 x3 x4 (bZ item) x6 x7 (nI i) (bZ bg) (nI ind) (nI ind) 0 S' else (sLd S' 64 (nI i)).bind fun v_3 => gj211_251 k103 x1 x2 x3 x4 (bZ item) x6 x7 (nI i) (bZ bg) (nI ind) (nI ind) v_3 S') ∧ dS S' (by' ++ (List.range ind).flatMap (outI item bg ind n0)) st lg ∧ syD S S' := by
      intro mk hmk
      unfold gj211_169 gj211_201
      have no : (item && bg && decide (k + 1 = ind) && decide (n0 = 0)) = false → outI item bg ind n0 k = (if false = true then [] else [if mk = true then 45 else 32]) := fun h => by
        unfold outI
        rw [h, hmk]
      cases item with
      | false =>
        rw [if_pos bZf]
        exact go mk false (no rfl)
      | true =>
        rw [if_neg bZt]
        cases bg with
        | false =>
          rw [if_pos bZf]
          exact go mk false (no rfl)
        | true =>
          have := h2i rfl rfl
          rw [if_neg bZt, nI_s1 (by omega), h63]
          by_cases h1 : k = ind - 1
          · rw [if_pos (by rw [h1])]
            by_cases h0 : n0 = 0
            · rw [if_pos (show nI n0 = 0 by rw [h0]; rfl)]
              refine go mk true ?_
              unfold outI
              rw [if_pos (by simp; omega), if_pos (Eq.refl true)]
            · rw [if_neg (nI_ne0 (by omega) (by omega))]
              exact go mk false (no (by simp [h0]))
          · rw [if_neg (nI_ne h1 (by omega) (by omega))]
            exact go mk false (no (by simp; omega))
    unfold gj211_168
    cases hit : item with
    | false =>
      rw [if_pos bZf]
      have := bare false (by rw [hit]; rfl)
      rw [hit] at this
      exact this
    | true =>
      rw [if_neg bZt]
      cases hbg : bg with
      | false =>
        rw [if_pos bZf]
        have := bare false (by rw [hit, hbg]; rfl)
        rw [hit, hbg] at this
        exact this
      | true =>
        have h3 := h2i hit hbg
        rw [if_neg bZt, show nI ind - 2 = nI (ind - 2) from pk_sub (b := 2) h3]
        by_cases h1 : k = ind - 2
        · rw [if_pos (by rw [h1])]
          have := bare true (by rw [hit, hbg]; simp; omega)
          rw [hit, hbg] at this
          exact this
        · rw [if_neg (nI_ne h1 (by omega) (by omega))]
          have := bare false (by rw [hit, hbg]; simp; omega)
          rw [hit, hbg] at this
          exact this
end PMLY
