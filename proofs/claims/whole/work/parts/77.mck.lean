section PMCK
variable {S : mS} {by' cf ts : List Nat} {es : List En}
def cS (S : mS) (by' cf : List Nat) : Prop := (S.1 61 = nI by'.length ∧ ∀ i, i < by'.length → S.2 60 i = nI (by'.getD i 0)) ∧ S.1 63 = nI cf.length ∧ ∀ i, i < cf.length → S.2 62 i = nI (cf.getD i 0)
def tS (S : mS) (ts : List Nat) : Prop := S.1 51 = nI ts.length ∧ ∀ i, i < ts.length → S.2 50 i = nI (ts.getD i 0)
theorem cS_df {J K : List Nat} {S' : mS} (D : df J K S S') (h : 61 ∉ J ∧ 63 ∉ J ∧ 60 ∉ K ∧ 62 ∉ K) (M : cS S by' cf) : cS S' by' cf := by
  obtain ⟨⟨a, b⟩, c, d⟩ := M
  refine ⟨⟨by rw [D.1 61 h.1]; exact a, fun i hi => by rw [D.2 60 h.2.2.1]; exact b i hi⟩, by rw [D.1 63 h.2.1]; exact c, fun i hi => by rw [D.2 62 h.2.2.2]; exact d i hi⟩
theorem tS_df {J K : List Nat} {S' : mS} (D : df J K S S') (h : 51 ∉ J ∧ 50 ∉ K) (M : tS S ts) : tS S' ts := ⟨by rw [D.1 51 h.1]; exact M.1, fun i hi => by rw [D.2 50 h.2]; exact M.2 i hi⟩
theorem g203_s (C : cS S by' cf) (hb : by'.length < 3000) (c : Nat) : ∃ S', g203 (nI c) S = some S' ∧ cS S' (by' ++ [c]) cf ∧ df [61] [60] S S' := by
  obtain ⟨⟨a, b⟩, d, e⟩ := C
  have l1 : (by' ++ [c]).length = by'.length + 1 := by simp
  unfold g203
  rw [a, st_60 hb]
  simp only [bS]
  rw [show (sSet S 60 by'.length (nI c)).1 61 = nI by'.length from a, nI_1]
  refine ⟨_, rfl, ⟨⟨by rw [l1]; rfl, fun i hi => ?_⟩, d, fun i hi => ?_⟩, (df.set (by decide)).tr (df.put (by decide))⟩
  · rw [l1] at hi
    rw [sP_2, gD_app hi]
    by_cases h5 : i = by'.length
    · rw [if_pos h5, h5, sS_eq]
    · rw [if_neg h5, sS_ne (by omega)]
      exact b i (by omega)
  · rw [sP_2, sS_ne (by omega)]
    exact e i hi
theorem g202_s (C : cS S by' cf) (hb : cf.length < 130) : ∃ S', g202 S = some S' ∧ cS S' by' (cf ++ [by'.length]) ∧ df [63] [62] S S' := by
  obtain ⟨⟨a, b⟩, d, e⟩ := C
  have l1 : (cf ++ [by'.length]).length = cf.length + 1 := by simp
  unfold g202
  rw [a, d, st_62 hb]
  simp only [bS]
  rw [show (sSet S 62 cf.length (nI by'.length)).1 63 = nI cf.length from d, nI_1]
  refine ⟨_, rfl, ⟨⟨a, fun i hi => ?_⟩, by rw [l1]; rfl, fun i hi => ?_⟩, (df.set (by decide)).tr (df.put (by decide))⟩
  · rw [sP_2, sS_ne (by omega)]
    exact b i hi
  · rw [l1] at hi
    rw [sP_2, gD_app hi]
    by_cases h5 : i = cf.length
    · rw [if_pos h5, h5, sS_eq]
    · rw [if_neg h5, sS_ne (by omega)]
      exact e i (by omega)
abbrev adD (S S' : mS) : Prop := df [61] [60] S S'
/-- a part of a text -/
theorem g204_s {N : Nat} {bs : List Nat} {e a z : Nat} (A : aF S 12 (600 * e) (tx bs) bs.length) (he : e < 41) (haz : a ≤ z) (hz : z ≤ bs.length) (C : cS S by' cf) (hb : by'.length + (z - a) ≤ 3000) : ∃ S', g204 (nI e) (nI a) (nI (z - a)) S = some S' ∧ cS S' (by' ++ cut bs a z) cf ∧ adD S S' := by
  have a1 := A.1
  rw [show mSz.getD 12 0 = 24600 from rfl] at a1
  have key : ∀ k n i (S : mS), i + k = z - a → k < n → aF S 12 (600 * e) (tx bs) bs.length → cS S (by' ++ cut bs a (a + i)) cf → ∃ S', gl204_3 n (nI e) (nI a) (nI (z - a)) (nI i) S = some S' ∧ cS S' (by' ++ cut bs a z) cf ∧ adD S S' := by
    intro k
    induction k with
    | zero =>
      intro n i S hi hn A C
      obtain ⟨n, rfl⟩ : ∃ m, n = m + 1 := ⟨n - 1, by omega⟩
      rw [gl204_3]
      dsimp only
      rw [if_pos (nI_le (by omega) (by omega))]
      rw [show a + i = z by omega] at C
      exact ⟨S, rfl, C, df.rfl'⟩
    | succ k ih =>
      intro n i S hi hn A C
      obtain ⟨n, rfl⟩ : ∃ m, n = m + 1 := ⟨n - 1, by omega⟩
      rw [gl204_3]
      dsimp only
      rw [if_neg (nI_ge (by omega) (by omega)), lt_600, pk_mul, nI_add, nI_add, Nat.add_assoc, A.ld (by omega)]
      simp only [bS]
      obtain ⟨T, t1, t2, t3⟩ := g203_s C (by rw [List.length_append, cut_len (by omega)]; omega) (tx bs (a + i))
      rw [t1]
      simp only [bS, nI_1]
      rw [List.append_assoc, ← cut_s (by omega) (by omega)] at t2
      obtain ⟨U, u1, u2, u3⟩ := ih n (i + 1) T (by omega) (by omega) (aF_df t3 (by decide) A) t2
      exact ⟨U, u1, u2, t3.tr u3⟩
  unfold g204
  exact key (z - a) xFuel 0 S (by omega) (pFuel _ (by omega)) A (by rw [Nat.add_zero, cut_e, List.append_nil]; exact C)
/-- six bytes of a long, the lowest first -/
def hB (W : Int64) (l : List Nat) : Prop := l.length = 6 ∧ ∀ k, k < 6 → ((W >>> ((nI (8 * k)).toInt64 &&& 63)) &&& 255).toInt32 = nI (l.getD k 0) ∧ l.getD k 0 < 256
theorem g205_s {W : Int64} {l : List Nat} (h : hB W l) (C : cS S by' cf) (hb : by'.length + 6 ≤ 3000) : ∃ S', g205 W S = some S' ∧ cS S' (by' ++ l.reverse.filter fun c => decide (0 < c)) cf ∧ adD S S' := by
  obtain ⟨h1, h2⟩ := h
  have key : ∀ k n (x : Int32) (by' : List Nat) (S : mS), k ≤ 6 → k < n → (k = 0 → x = -8) → (∀ j, k = j + 1 → x = nI (8 * j)) → cS S by' cf → by'.length + k ≤ 3000 → ∃ S', gl205_3 n W x S = some S' ∧ cS S' (by' ++ (l.take k).reverse.filter fun c => decide (0 < c)) cf ∧ adD S S' := by
    intro k
    induction k with
    | zero =>
      intro n x by' S hk hn hx _ C _
      obtain ⟨n, rfl⟩ : ∃ m, n = m + 1 := ⟨n - 1, by omega⟩
      rw [gl205_3]
      dsimp only
      rw [hx rfl, if_pos (by decide)]
      exact ⟨S, rfl, by simpa using C, df.rfl'⟩
    | succ k ih =>
      intro n x by' S hk hn _ hx C hb
      obtain ⟨n, rfl⟩ : ∃ m, n = m + 1 := ⟨n - 1, by omega⟩
      obtain ⟨v1, v2⟩ := h2 k (by omega)
      have e1 : (l.take (k + 1)).reverse = l.getD k 0 :: (l.take k).reverse := by
        rw [take_s 0 (by omega)]
        simp
      have sh : ∀ j, k = j + 1 → nI (8 * k) + (-8) = nI (8 * j) := fun j hj => by
        rw [show (-8 : Int32) = -(nI 8) by decide, ← Int32.sub_eq_add_neg, pk_sub (by omega)]
        congr 1
        omega
      have sh0 : k = 0 → nI (8 * k) + (-8) = -8 := fun hk => by
        subst hk
        decide
      rw [gl205_3]
      dsimp only
      rw [hx k rfl, if_neg (nI_pos (by omega)), v1, e1, List.filter_cons]
      unfold gj205_28
      by_cases h0 : l.getD k 0 = 0
      · rw [if_pos (show nI (l.getD k 0) ≤ 0 by rw [h0]; decide), if_neg (show ¬ decide (0 < l.getD k 0) = true by rw [h0]; decide)]
        exact ih n _ by' S (by omega) (by omega) sh0 sh C (by omega)
      · rw [if_neg (nI_nle (by omega) (by omega)), if_pos (decide_eq_true (show 0 < l.getD k 0 by omega))]
        obtain ⟨T, t1, t2, t3⟩ := g203_s C (by omega) (l.getD k 0)
        rw [t1]
        simp only [bS]
        obtain ⟨U, u1, u2, u3⟩ := ih n _ _ T (by omega) (by omega) sh0 sh t2 (by simp; omega)
        refine ⟨U, u1, ?_, t3.tr u3⟩
        rw [List.append_assoc] at u2
        exact u2
  unfold g205
  have := key 6 xFuel 40 by' S (Nat.le_refl _) (by decide) (fun h9 => absurd h9 (by decide)) (fun j hj => by
    obtain rfl : j = 5 := by omega
    rfl) C hb
  rw [List.take_of_length_le (by omega)] at this
  exact this
theorem hB_2 : hB 482671223149 [109, 97, 114, 97, 112, 0] := by unfold hB; decide +kernel
theorem hB_3 : hB 125780071117422 [110, 114, 117, 116, 101, 114] := by unfold hB; decide +kernel
theorem hB_4 : hB 127991945328499 [115, 119, 111, 114, 104, 116] := by unfold hB; decide +kernel
theorem hB_5 : hB 7562597 [101, 101, 115, 0, 0, 0] := by unfold hB; decide +kernel
theorem hB_6 : hB 495690081125 [101, 99, 110, 105, 115, 0] := by unfold hB; decide +kernel
/-- targets: each once -/
def tOK (N : Nat) (ts : List Nat) : Prop := N ≤ 40 ∧ ts.Nodup ∧ ∀ x ∈ ts, x < N
theorem nd_len : ∀ n (l : List Nat), l.Nodup → (∀ x ∈ l, x < n) → l.length ≤ n := by
  intro n
  induction n with
  | zero =>
    intro l _ h
    cases l with
    | nil => exact Nat.le_refl _
    | cons a l => exact absurd (h a (List.mem_cons_self ..)) (Nat.not_lt_zero _)
  | succ n ih =>
    intro l h1 h2
    by_cases hm : n ∈ l
    · have h3 := ih (l.erase n) (h1.erase n) fun x hx => by
        have := (h1.mem_erase_iff).mp hx
        have := h2 x this.2
        omega
      rw [List.length_erase_of_mem hm] at h3
      omega
    · have := ih l h1 fun x hx => by
        have h4 := h2 x hx
        have : x ≠ n := fun h9 => hm (h9 ▸ hx)
        omega
      omega
theorem tOK.le {N : Nat} (h : tOK N ts) : ts.length ≤ 40 := Nat.le_trans (nd_len N ts h.2.1 h.2.2) h.1
theorem tOK.add {N : Nat} (h : tOK N ts) {e : Nat} (he : e < N) (hn : e ∉ ts) : tOK N (ts ++ [e]) ∧ ts.length < 40 := by
  have h2 : tOK N (ts ++ [e]) := by
    refine ⟨h.1, ?_, fun x hx => ?_⟩
    · rw [List.nodup_append]
      refine ⟨h.2.1, by simp, fun a ha b hb => ?_⟩
      simp at hb
      subst hb
      exact fun h9 => hn (h9 ▸ ha)
    · rw [List.mem_append, List.mem_singleton] at hx
      rcases hx with hx | hx
      · exact h.2.2 x hx
      · omega
  have := h2.le
  simp at this
  exact ⟨h2, by omega⟩
theorem fi_sc {α : Type} (p : α → Bool) (d : α) (l : List α) : l.findIdx p = sc (fun j => p (l.getD j d)) 0 l.length := by
  have g : ∀ k i, i + k = l.length → (l.drop i).findIdx p = sc (fun j => p (l.getD j d)) i k - i := by
    intro k
    induction k with
    | zero =>
      intro i hi
      rw [List.drop_eq_nil_of_le (by omega)]
      simp [sc]
    | succ k ih =>
      intro i hi
      have hlt : i < l.length := by omega
      rw [List.drop_eq_getElem_cons hlt, List.findIdx_cons]
      have e1 : l.getD i d = l[i] := by simp [List.getD_eq_getElem?_getD, hlt]
      have s1 := sc_ge (fun j => p (l.getD j d)) k (i + 1)
      unfold sc
      rw [e1]
      cases hp : p l[i] with
      | true => simp
      | false =>
        rw [ih (i + 1) (by omega)]
        simp only [cond_false, Bool.false_eq_true, if_false]
        omega
  have := g l.length 0 (by omega)
  rw [List.drop_zero, Nat.sub_zero] at this
  exact this
theorem mark_ok {N : Nat} {o : Option Nat} (h : tOK N ts) (ho : ∀ e, o = some e → e < N) : tOK N (mark ts o).2 ∧ (mark ts o).1.length ≤ 4 := by
  cases o with
  | none => exact ⟨h, by show [91, 63, 93].length ≤ 4; decide⟩
  | some e =>
    unfold mark
    dsimp only
    constructor
    · by_cases hk : ts.findIdx (fun x => x == e) = ts.length
      · rw [if_pos hk]
        refine (h.add (ho e rfl) fun hm => ?_).1
        have := List.findIdx_lt_length_of_exists (xs := ts) (p := fun x => x == e) ⟨e, hm, by simp⟩
        omega
      · rw [if_neg hk]
        exact h
    · split <;> simp
abbrev tgD (S S' : mS) : Prop := df [51, 61] [50, 60] S S'
/-- the mark of a target -/
theorem g206_s {N : Nat} (C : cS S by' cf) (T : tS S ts) (h : tOK N ts) {o : Option Nat} (ho : ∀ e, o = some e → e < N) (hb : by'.length + 4 ≤ 3000) : ∃ S', g206 (oI o) S = some S' ∧ cS S' (by' ++ (mark ts o).1) cf ∧ tS S' (mark ts o).2 ∧ tgD S S' := by
  have hl := h.le
  unfold g206
  obtain ⟨U, u1, u2, u3⟩ := g203_s C (by omega) 91
  rw [show (91 : Int32) = nI 91 from rfl, u1]
  simp only [bS]
  have TU := tS_df u3 (by decide) T
  have l1 : (by' ++ [91]).length = by'.length + 1 := by simp
  cases o with
  | none =>
    rw [if_pos oI_n]
    obtain ⟨V, v1, v2, v3⟩ := g203_s u2 (by omega) 63
    rw [show (63 : Int32) = nI 63 from rfl, v1]
    simp only [bS]
    unfold gj206_105
    obtain ⟨W, w1, w2, w3⟩ := g203_s v2 (by simp; omega) 93
    rw [show (93 : Int32) = nI 93 from rfl, w1]
    refine ⟨W, rfl, ?_, tS_df w3 (by decide) (tS_df v3 (by decide) TU), ((u3.tr v3).tr w3).mono (by decide) (by decide)⟩
    have e5 : by' ++ [91] ++ [63] ++ [93] = by' ++ (mark ts none).1 := by simp [mark]
    rw [e5] at w2
    exact w2
  | some e =>
    have he := ho e rfl
    have h40 := h.1
    rw [oI_s, if_neg (nI_nm (by omega))]
    have e1 : gl206_22 xFuel (nI e) (nI 0) U = gj206_46 (nI e) (nI (ts.findIdx fun x => x == e)) U := by
      rw [fi_sc (fun x => x == e) 0 ts]
      refine l_sc (fun n j => gl206_22 n (nI e) (nI j) U) (fun j => ts.getD j 0 == e) (fun j => gj206_46 (nI e) (nI j) U) ts.length (fun n => ?_) (fun n j hj hp => ?_) (fun n j hj hp => ?_) ts.length xFuel 0 (by omega) (pFuel _ (by omega))
      · simp only [gl206_22]
        rw [TU.1, if_pos (nI_le (Nat.le_refl _) (by omega))]
      · simp only [gl206_22]
        rw [TU.1, if_neg (nI_ge hj (by omega)), ld_50 (by omega), TU.2 j hj]
        simp only [bS]
        rw [beq_iff_eq] at hp
        rw [if_pos (by rw [hp])]
      · have := h.2.2 _ (gD_mem (d := 0) hj)
        have h40 := h.1
        simp only [gl206_22]
        rw [TU.1, if_neg (nI_ge hj (by omega)), ld_50 (by omega), TU.2 j hj]
        simp only [bS, nI_1]
        rw [if_neg (nI_ne (by simpa using hp) (by omega) (by omega))]
    rw [show (0 : Int32) = nI 0 from rfl, e1]
    have kl : ts.findIdx (fun x => x == e) ≤ ts.length := List.findIdx_le_length
    have kx : ts.findIdx (fun x => x == e) = ts.length → e ∉ ts := fun hk hm => by
      have := List.findIdx_lt_length_of_exists (xs := ts) (p := fun x => x == e) ⟨e, hm, by simp⟩
      omega
    unfold mark
    dsimp only
    generalize ts.findIdx (fun x => x == e) = k at kl kx ⊢
    -- the digits
    have fin : ∀ (V : mS) (t2 : List Nat), k < 40 → cS V (by' ++ [91]) cf → tS V t2 → tgD S V → ∃ S', gj206_71 (nI e) (nI k) V = some S' ∧ cS S' (by' ++ (if 9 < k + 1 then [91, 48 + (k + 1) / 10, 48 + (k + 1) % 10, 93] else [91, 48 + (k + 1) % 10, 93])) cf ∧ tS S' t2 ∧ tgD S S' := by
      intro V t2 hk CV TV DV
      have r10 : xrem (nI (k + 1)) 10 = nI ((k + 1) % 10) := pk_rem (d := 10) (by omega) (by decide) (by decide)
      have q10 : nI (k + 1) / 10 = nI ((k + 1) / 10) := pk_div (d := 10) (by omega) (by decide) (by decide)
      have last : ∀ (W : mS) (b2 : List Nat), b2.length + 2 ≤ 3000 → cS W b2 cf → tS W t2 → tgD S W → ∃ S', gj206_92 (nI e) (nI k) W = some S' ∧ cS S' (b2 ++ [48 + (k + 1) % 10, 93]) cf ∧ tS S' t2 ∧ tgD S S' := by
        intro W b2 hb2 CW TW DW
        unfold gj206_92 gj206_105
        rw [nI_1, r10, lt_48, nI_add]
        obtain ⟨X, x1, x2, x3⟩ := g203_s CW (by omega) (48 + (k + 1) % 10)
        rw [x1]
        simp only [bS]
        obtain ⟨Y, y1, y2, y3⟩ := g203_s x2 (by simp; omega) 93
        rw [show (93 : Int32) = nI 93 from rfl, y1]
        refine ⟨Y, rfl, ?_, tS_df y3 (by decide) (tS_df x3 (by decide) TW), DW.tr ((x3.tr y3).mono (by decide) (by decide))⟩
        rw [List.append_assoc] at y2
        exact y2
      unfold gj206_71
      rw [nI_1]
      by_cases h9 : 9 < k + 1
      · rw [if_neg (show ¬ nI (k + 1) ≤ 9 from nI_ge (a := 9) h9 (by omega)), if_pos h9, q10, lt_48, nI_add]
        obtain ⟨X, x1, x2, x3⟩ := g203_s CV (by omega) (48 + (k + 1) / 10)
        rw [x1]
        simp only [bS]
        obtain ⟨Y, y1, y2, y3, y4⟩ := last X _ (by simp; omega) x2 (tS_df x3 (by decide) TV) (DV.tr (x3.mono (by decide) (by decide)))
        refine ⟨Y, y1, ?_, y3, y4⟩
        have e5 : by' ++ [91] ++ [48 + (k + 1) / 10] ++ [48 + (k + 1) % 10, 93] = by' ++ [91, 48 + (k + 1) / 10, 48 + (k + 1) % 10, 93] := by simp
        rw [e5] at y2
        exact y2
      · rw [if_pos (show nI (k + 1) ≤ 9 from nI_le (b := 9) (by omega) (by decide)), if_neg h9]
        obtain ⟨Y, y1, y2, y3, y4⟩ := last V _ (by simp; omega) CV TV DV
        refine ⟨Y, y1, ?_, y3, y4⟩
        have e5 : by' ++ [91] ++ [48 + (k + 1) % 10, 93] = by' ++ [91, 48 + (k + 1) % 10, 93] := by simp
        rw [e5] at y2
        exact y2
    have DU : tgD S U := u3.mono (by decide) (by decide)
    unfold gj206_46
    rw [TU.1]
    by_cases hk : k = ts.length
    · obtain ⟨q1, q2⟩ := h.add he (kx hk)
      rw [if_pos (by rw [hk]), if_pos hk, st_50 (by omega)]
      simp only [bS]
      rw [show (sSet U 50 k (nI e)).1 51 = nI ts.length from TU.1, nI_1]
      have DV : df [51] [50] U (sPut (sSet U 50 k (nI e)) 51 (nI (ts.length + 1))) := (df.set (by decide)).tr (df.put (by decide))
      refine fin _ (ts ++ [e]) (by omega) (cS_df DV (by decide) u2) ⟨by simp; rfl, fun i hi => ?_⟩ (DU.tr (DV.mono (by decide) (by decide)))
      simp only [List.length_append, List.length_singleton] at hi
      rw [sP_2, gD_app hi]
      by_cases h5 : i = ts.length
      · rw [if_pos h5, h5, hk, sS_eq]
      · rw [if_neg h5, sS_ne (by omega)]
        exact TU.2 i (by omega)
    · rw [if_neg (nI_ne hk (by omega) (by omega)), if_neg hk]
      exact fin U ts (by omega) u2 TU DU
end PMCK
