section PCENT
def cBk (C : xC) (c b : Nat) (k : Bk) : Prop := cR C b 0 = some c ∧ cI C b 1 = nI (bSo k) ∧ cI C b 2 = nI (bPl k) ∧ cI C b 3 = nI (bDe k) ∧ cI C b 4 = nI (bFi k) ∧ cI C b 5 = nI (bMa k) ∧ (isTg (bSo k) = true → bSo k ≠ 3 → cI C b 6 = nI (bNf k) ∧ cI C b 7 = nI (bNt k)) ∧ cI C b 8 = bZ (bJo k)
def cPc (C : xC) (p : Nat) (k : Pc) : Prop := cI C p 0 = nI (pSo k) ∧ cI C p 1 = nI (pPl k) ∧ cI C p 2 = nI (pSf k) ∧ cI C p 3 = nI (pSt k) ∧ (pSo k = 2 → cI C p 4 = nI (pNf k) ∧ cI C p 5 = nI (pNt k)) ∧ cI C p 6 = bZ (pGl k)
/-- the cells of a Comment -/
def cSh (C : xC) (c : Nat) : Prop := cR C c 0 = some (c + 1) ∧ cR C (c + 1) 0 = some (c + 2) ∧ (∃ bs, TX C (c + 1) (c + 2) 600 bs) ∧ (cR C c 1 = some (c + 3) ∧ (cK C (c + 3)).2 = 25 ∧ ∀ i, i < 25 → cR C (c + 3) i = some (c + 4 + i)) ∧ cR C c 2 = some (c + 29) ∧ (cK C (c + 29)).2 = 120 ∧ ∀ i, i < 120 → cR C (c + 29) i = some (c + 30 + i)
def cRd (C : xC) (c : Nat) (r : Rd) : Prop := (cI C c 3 = nI r.1.length ∧ ∀ k, k < r.1.length → cBk C c (c + 4 + k) (r.1.getD k bkD)) ∧ cI C c 4 = nI r.2.length ∧ ∀ k, k < r.2.length → cPc C (c + 30 + k) (r.2.getD k pcD)
def cCm (C : xC) (c : Nat) (m : Cm) : Prop := TX C (c + 1) (c + 2) 600 m.1 ∧ cRd C c m.2
def cEn (C : xC) (ea : Nat → Nat) (pa : Nat → Nat → Nat) (ca : Nat → Nat) (e : Nat) (n : En) : Prop := (cI C (ea e) 0 = nI e ∧ cR C (ea e) 1 = some (ea e + 1) ∧ TX C (ea e + 1) (ea e + 2) 10 (eNm n)) ∧ (cR C (ea e) 2 = (eOw n).map ea ∧ cR C (ea e) 3 = (ePa n).map ea ∧ cI C (ea e) 4 = bZ (eGv n)) ∧ (cR C (ea e) 5 = some (ea e + 3) ∧ (cK C (ea e + 3)).2 = 4 ∧ cI C (ea e) 6 = nI (ePs n).length ∧ ∀ k, k < (ePs n).length → cR C (ea e + 3) k = some (pa e k) ∧ TX C (pa e k) (pa e k + 1) 10 ((ePs n).getD k [])) ∧ cI C (ea e) 8 = bZ (eCm n).isSome ∧ ((cR C (ea e) 7 = none ∧ eCm n = none) ∨ (cR C (ea e) 7 = some (ca e) ∧ cSh C (ca e))) ∧ ∀ c, eCm n = some c → cR C (ea e) 7 = some (ca e) ∧ cR C (ca e) 5 = some (ea e) ∧ cCm C (ca e) c
def cE (C : xC) (ea : Nat → Nat) (pa : Nat → Nat → Nat) (ca : Nat → Nat) (es : List En) : Prop := (cR C 3 0 = some 4 ∧ (cK C 4).2 = 40 ∧ cI C 3 1 = nI es.length) ∧ (∀ i j, i < es.length → j < es.length → ea i = ea j → i = j) ∧ ∀ e, e < es.length → cR C 4 e = some (ea e) ∧ cEn C ea pa ca e (gE es e)
theorem cLR_n {C : xC} {a i n : Nat} (h : i < n) (hn : (cK C a).2 = n) (h3 : n < 2 ^ 31) : cLR C a (nI i) = some (cR C a i) := by
  unfold cLR
  rw [hn, if_pos (xout_nI h h3), nI_clamp (by omega)]
theorem cLd_n {C : xC} {a i n : Nat} (h : i < n) (hn : (cK C a).2 = n) (h3 : n < 2 ^ 31) : cLd C a (nI i) = some (cI C a i) := by
  unfold cLd
  rw [hn, if_pos (xout_nI h h3), nI_clamp (by omega)]
theorem cSt_n {C : xC} {a i n : Nat} {v : Int32} (h : i < n) (hn : (cK C a).2 = n) (h3 : n < 2 ^ 31) : cSt C a (nI i) v = some (uI C a i v) := by
  unfold cSt
  rw [hn, if_pos (xout_nI h h3), nI_clamp (by omega)]
theorem cSR_n {C : xC} {a i n : Nat} {v : Option Nat} (h : i < n) (hn : (cK C a).2 = n) (h3 : n < 2 ^ 31) : cSR C a (nI i) v = some (uR C a i v) := by
  unfold cSR
  rw [hn, if_pos (xout_nI h h3), nI_clamp (by omega)]
variable {C : xC} {ea : Nat → Nat} {pa : Nat → Nat → Nat} {ca : Nat → Nat} {es : List En}
theorem cE.inj (H : cE C ea pa ca es) (w : wE es) {e t : Nat} (he : e < es.length) (ht : t < es.length) : (cR C (ea e) 2 = some (ea t)) = (eOw (gE es e) = some t) := by
  rw [(H.2.2 e he).2.2.1.1]
  cases ho : eOw (gE es e) with
  | none => simp
  | some o =>
    have := ((w.2 e he).1 o ho).1
    simp only [Option.map_some, Option.some.injEq]
    exact propext ⟨fun h => H.2.1 o t (by omega) ht h, fun h => by rw [h]⟩
theorem cE.non (H : cE C ea pa ca es) {e : Nat} (he : e < es.length) : (cR C (ea e) 2 = none) = (eOw (gE es e) = none) := by
  rw [(H.2.2 e he).2.2.1.1]
  cases eOw (gE es e) <;> simp
theorem cE.own (H : cE C ea pa ca es) (w : wE es) {e : Nat} {o : Option Nat} (he : e < es.length) (ho : ∀ t, o = some t → t < es.length) : (cR C (ea e) 2 = o.map ea) = (eOw (gE es e) = o) := by
  cases o with
  | none => exact H.non he
  | some t => exact H.inj w he (ho t rfl)
/-- an entry by its number -/
theorem g83_s (H : cE C ea pa ca es) (w : wE es) (x : Int32) : g83 3 x C = some ((eIx es x).map ea, C) := by
  have w1 := w.1
  unfold g83 eIx
  by_cases h0 : x < 0
  · rw [if_pos h0, if_neg fun h9 => h9.1 h0]
    rfl
  · obtain ⟨j, hj, rfl⟩ := nI_of h0
    rw [if_neg h0, H.1.2.2, nI_clamp hj]
    simp (disch := omega) only [nI_ltI, H.1.1, Option.bind_some]
    by_cases h1 : j < es.length
    · rw [if_pos h1, if_pos ⟨h0, h1⟩, cLR_n (n := 40) (by omega) H.1.2.1 (by decide), (H.2.2 j h1).1]
      rfl
    · rw [if_neg h1, if_neg fun h9 => h1 h9.2]
      rfl
theorem eIx_lt {x : Int32} {e : Nat} (h : eIx es x = some e) : e < es.length ∧ x = nI e := by
  unfold eIx at h
  split at h
  · rename_i h1
    obtain ⟨j, hj, rfl⟩ := nI_of h1.1
    rw [nI_clamp hj] at h h1
    cases h
    exact ⟨h1.2, rfl⟩
  · cases h
theorem eIx_n {e : Nat} (w : wE es) (h : e < es.length) : eIx es (nI e) = some e := by
  have := w.1
  unfold eIx
  rw [nI_clamp (by omega), if_pos ⟨nI_pos (by omega), h⟩]
theorem g83_e (H : cE C ea pa ca es) (w : wE es) {e : Nat} (he : e < es.length) : g83 3 (nI e) C = some (some (ea e), C) := by
  rw [g83_s H w, eIx_n w he]
  rfl
theorem g12_s (H : cE C ea pa ca es) {e : Nat} (he : e < es.length) : g12 (ea e) C = some (bZ (isTy es e), C) := by
  unfold g12 isTy
  simp only [H.non he]
  cases eOw (gE es e) <;> rfl
theorem g84_s (H : cE C ea pa ca es) (w : wE es) (x : Int32) : g84 3 x C = some (((eIx es x).filter fun e => isTy es e).map ea, C) := by
  unfold g84
  rw [g83_s H w]
  cases he : eIx es x with
  | none => rfl
  | some e =>
    simp only [Option.bind_some, Option.map_some, g12_s H (eIx_lt he).1, bZ_0]
    rw [if_neg (by simp)]
    cases ht : isTy es e with
    | true => simp [Option.filter, ht, gj84_22]
    | false => simp [Option.filter, ht, gj84_22, gj84_21]
variable {t b room : Nat} {bs : List Nat}
theorem g88_s (H : cE C ea pa ca es) (w : wE es) (T : TX C t b room bs) {o : Option Nat} (ho : ∀ t, o = some t → t < es.length) {i z : Nat} (hi : i ≤ z) (hz : z ≤ bs.length) (hr : room < 1000000) : g88 3 (o.map ea) (some t) (nI i) (nI z) C = some ((fE es o (cut bs i z)).map ea, C) := by
  have w1 := w.1
  unfold g88
  have key := l_sc (fun n j => gl88_3 n 3 (o.map ea) (some t) (nI i) (nI z) (nI j) C) (fun j => decide (eOw (gE es j) = o) && decide (eNm (gE es j) = cut bs i z)) (fun j => some (if j < es.length then some (ea j) else none, C)) es.length (fun n => ?_) (fun n j hj hp => ?_) (fun n j hj hp => ?_) es.length xFuel 0 (by omega) (pFuel _ (by omega))
  · refine Eq.trans key ?_
    have e1 := fE_sc es o (cut bs i z)
    split
    · rename_i hlt
      rw [if_pos hlt] at e1
      rw [e1]
      rfl
    · rename_i hlt
      rw [if_neg hlt] at e1
      rw [e1]
      rfl
  · simp (disch := omega) only [gl88_3, H.1.2.2, nI_leI]
    rw [if_pos (Nat.le_refl _), if_neg (by omega)]
  · simp only [Bool.and_eq_true, decide_eq_true_eq] at hp
    obtain ⟨m1, ⟨_, m3, m4⟩, _⟩ := H.2.2 j hj
    have ld : cLR C 4 (nI j) = some (some (ea j)) := by rw [cLR_n (n := 40) (by omega) H.1.2.1 (by decide), m1]
    simp (disch := omega) only [gl88_3, H.1.2.2, H.1.1, nI_leI, Option.bind_some, ld, H.own w hj ho, m3, g103_s m4 T hi hz hr, bZ_0]
    rw [if_neg (show ¬ es.length ≤ j by omega), if_neg (by simp), if_pos hp.1, if_neg (by simp [hp.2]), if_pos hj]
  · obtain ⟨m1, ⟨_, m3, m4⟩, _⟩ := H.2.2 j hj
    have ld : cLR C 4 (nI j) = some (some (ea j)) := by rw [cLR_n (n := 40) (by omega) H.1.2.1 (by decide), m1]
    simp (disch := omega) only [gl88_3, H.1.2.2, H.1.1, nI_leI, Option.bind_some, ld, H.own w hj ho, m3, g103_s m4 T hi hz hr, bZ_0, gj88_53, nI_1]
    rw [if_neg (show ¬ es.length ≤ j by omega), if_neg (by simp)]
    by_cases c1 : eOw (gE es j) = o
    · have c2 : ¬ eNm (gE es j) = cut bs i z := fun h9 => by simp [c1, h9] at hp
      rw [if_pos c1, if_pos (by simp [c2])]
    · rw [if_neg c1]
theorem g87_s (H : cE C ea pa ca es) (w : wE es) (T : TX C t b room bs) {i z : Nat} (hi : i ≤ z) (hz : z ≤ bs.length) (hr : room < 1000000) : g87 3 (some t) (nI i) (nI z) C = some ((fE es none (cut bs i z)).map ea, C) := by
  have := g88_s H w T (o := none) (fun t h => by cases h) hi hz hr
  unfold g87
  rw [show (none : Option Nat) = Option.map ea none from rfl, this]
  rfl
theorem g89_s (H : cE C ea pa ca es) (w : wE es) (T : TX C t b room bs) {i z : Nat} (hi : i ≤ z) (hz : z ≤ bs.length) (hr : room < 1000000) (o1 : Option Nat) : ∀ k n (o : Option Nat), k ≤ 40 → k < n → (∀ t, o = some t → t < k ∧ t < es.length) → gl89_6 n 3 o1 (some t) (nI i) (nI z) (o.map ea) (nI (40 - k)) C = some ((mF es k o (cut bs i z)).map ea, C) := by
  have w1 := w.1
  intro k
  induction k with
  | zero =>
    intro n o hk hn h
    obtain ⟨n, rfl⟩ : ∃ m, n = m + 1 := ⟨n - 1, by omega⟩
    rw [gl89_6]
    simp (disch := omega) only [lt_2, lt_3, lt_4, lt_5, lt_6, lt_7, lt_8, lt_9, lt_10, lt_12, lt_13, lt_14, lt_15, lt_16, lt_20, lt_24, lt_25, lt_32, lt_39, lt_40, lt_41, lt_45, lt_46, lt_48, lt_57, lt_60, lt_63, lt_64, lt_65, lt_90, lt_91, lt_93, lt_97, lt_120, lt_121, lt_122, lt_123, lt_125, lt_126, lt_130, lt_600, lt_960, lt_999, lt_1000, lt_1091, lt_1200, lt_3000, lt_4000, lt_4001, lt_4002, lt_4800, lt_24000, nI_add, pk_mul, nI_leI, nI_ltI, nI_eq, nI_1]
    rw [if_pos (by omega)]
    rfl
  | succ k ih =>
    intro n o hk hn h
    obtain ⟨n, rfl⟩ : ∃ m, n = m + 1 := ⟨n - 1, by omega⟩
    rw [gl89_6]
    simp (disch := omega) only [lt_2, lt_3, lt_4, lt_5, lt_6, lt_7, lt_8, lt_9, lt_10, lt_12, lt_13, lt_14, lt_15, lt_16, lt_20, lt_24, lt_25, lt_32, lt_39, lt_40, lt_41, lt_45, lt_46, lt_48, lt_57, lt_60, lt_63, lt_64, lt_65, lt_90, lt_91, lt_93, lt_97, lt_120, lt_121, lt_122, lt_123, lt_125, lt_126, lt_130, lt_600, lt_960, lt_999, lt_1000, lt_1091, lt_1200, lt_3000, lt_4000, lt_4001, lt_4002, lt_4800, lt_24000, nI_add, pk_mul, nI_leI, nI_ltI, nI_eq, nI_1]
    rw [if_neg (by omega)]
    cases o with
    | none => rfl
    | some s =>
      obtain ⟨h1, h2⟩ := h s rfl
      rw [if_neg (by simp), g88_s H w T (o := some s) (fun t ht => by cases ht; exact h2) hi hz hr]
      simp only [Option.bind_some, Option.map_some, mF]
      cases hf : fE es (some s) (cut bs i z) with
      | some e => rfl
      | none =>
        have := ih n (ePa (gE es s)) (by omega) (by omega) fun p hp => by have := ((w.2 s h2).2.1 p hp).1; omega
        rw [show 40 - k = 40 - (k + 1) + 1 by omega] at this
        simp only [Option.map_none, if_true, (H.2.2 s h2).2.2.1.2.1]
        exact this
theorem g89_o (H : cE C ea pa ca es) (w : wE es) (T : TX C t b room bs) {i z : Nat} (hi : i ≤ z) (hz : z ≤ bs.length) (hr : room < 1000000) {o : Option Nat} (ho : ∀ t, o = some t → t < es.length) : g89 3 (o.map ea) (some t) (nI i) (nI z) C = some ((mF es 40 o (cut bs i z)).map ea, C) := g89_s H w T hi hz hr (o.map ea) 40 xFuel o (Nat.le_refl _) (by decide) fun t h => ⟨by have := ho t h; have := w.1; omega, ho t h⟩
theorem g90_s (H : cE C ea pa ca es) (w : wE es) {e : Nat} (he : e < es.length) : g90 3 (some (ea e)) C = some ((abv es e).map ea, C) := by
  obtain ⟨_, ⟨_, m3, m4⟩, m5, _⟩ := H.2.2 e he
  unfold g90 abv
  simp only [Option.bind_some, m3, m4.2.1, m5.1]
  cases ho : eOw (gE es e) with
  | none => rfl
  | some o =>
    have a1 := ((w.2 e he).1 o ho).1
    simp only [Option.map_some, Option.bind_some]
    rw [if_neg (by simp), (H.2.2 o (by omega)).2.2.1.2.1, show (0 : Int32) = nI 0 from rfl, g89_o H w m4 (Nat.zero_le _) (Nat.le_refl _) (by decide) fun p hp => by have := ((w.2 o (by omega)).2.1 p hp).1; omega, cut_all]
    rfl
theorem g91_s (H : cE C ea pa ca es) (w : wE es) (o1 : Option Nat) : ∀ k n (o : Option Nat), k ≤ 40 → k < n → rk es o ≤ k → (∀ e, o = some e → e < es.length) → gl91_4 n 3 o1 (o.map ea) (nI (40 - k)) C = some ((cnt es k o).map ea, C) := by
  intro k
  induction k with
  | zero =>
    intro n o hk hn hr h
    obtain ⟨n, rfl⟩ : ∃ m, n = m + 1 := ⟨n - 1, by omega⟩
    rw [gl91_4]
    simp (disch := omega) only [lt_2, lt_3, lt_4, lt_5, lt_6, lt_7, lt_8, lt_9, lt_10, lt_12, lt_13, lt_14, lt_15, lt_16, lt_20, lt_24, lt_25, lt_32, lt_39, lt_40, lt_41, lt_45, lt_46, lt_48, lt_57, lt_60, lt_63, lt_64, lt_65, lt_90, lt_91, lt_93, lt_97, lt_120, lt_121, lt_122, lt_123, lt_125, lt_126, lt_130, lt_600, lt_960, lt_999, lt_1000, lt_1091, lt_1200, lt_3000, lt_4000, lt_4001, lt_4002, lt_4800, lt_24000, nI_add, pk_mul, nI_leI, nI_ltI, nI_eq, nI_1]
    rw [if_pos (by omega)]
    rfl
  | succ k ih =>
    intro n o hk hn hr h
    obtain ⟨n, rfl⟩ : ∃ m, n = m + 1 := ⟨n - 1, by omega⟩
    rw [gl91_4]
    simp (disch := omega) only [lt_2, lt_3, lt_4, lt_5, lt_6, lt_7, lt_8, lt_9, lt_10, lt_12, lt_13, lt_14, lt_15, lt_16, lt_20, lt_24, lt_25, lt_32, lt_39, lt_40, lt_41, lt_45, lt_46, lt_48, lt_57, lt_60, lt_63, lt_64, lt_65, lt_90, lt_91, lt_93, lt_97, lt_120, lt_121, lt_122, lt_123, lt_125, lt_126, lt_130, lt_600, lt_960, lt_999, lt_1000, lt_1091, lt_1200, lt_3000, lt_4000, lt_4001, lt_4002, lt_4800, lt_24000, nI_add, pk_mul, nI_leI, nI_ltI, nI_eq, nI_1]
    rw [if_neg (by omega)]
    cases o with
    | none => rfl
    | some e =>
      have he := h e rfl
      have hx := rk_abv w he
      obtain ⟨_, _, _, _, m6, _⟩ := H.2.2 e he
      simp only [Option.map_some, Option.bind_some, m6, bZ_0, g90_s H w he, cnt]
      rw [if_neg (by simp)]
      cases hc : (eCm (gE es e)).isSome with
      | true => rfl
      | false =>
        have := ih n (abv es e) (by omega) (by omega) (by omega) fun a ha => (abv_lt w he ha).1
        rw [show 40 - k = 40 - (k + 1) + 1 by omega] at this
        exact this
theorem g91_o (H : cE C ea pa ca es) (w : wE es) {o : Option Nat} (ho : ∀ e, o = some e → e < es.length) : g91 3 (o.map ea) C = some ((cnt es 40 o).map ea, C) := g91_s H w (o.map ea) 40 xFuel o (Nat.le_refl _) (by decide) (rk_le w ho) ho
theorem g92_s (H : cE C ea pa ca es) (w : wE es) {e : Nat} (he : e < es.length) : g92 3 (some (ea e)) C = some ((cnt es 40 (abv es e)).map ea, C) := by
  unfold g92
  rw [g90_s H w he]
  simp only [Option.bind_some]
  rw [g91_o H w fun a ha => (abv_lt w he ha).1]
  cases abv es e <;> rfl
theorem g13_s (H : cE C ea pa ca es) {e : Nat} (he : e < es.length) : g13 (ea e) C = some (some (ea (nty es e)), C) := by
  unfold g13 nty
  simp only [(H.2.2 e he).2.2.1.1]
  cases eOw (gE es e) <;> rfl
theorem rf_at {f : Nat → Nat} {i k : Nat} (h : rfOK f i k = true) : 0 < k ∧ nmOK f i (sc (fun j => f j == 46) i k - i) = true ∧ (sc (fun j => f j == 46) i k < i + k → nmOK f (sc (fun j => f j == 46) i k + 1) (i + k - (sc (fun j => f j == 46) i k + 1)) = true) := by
  have a := sc_ge (fun j => f j == 46) k i
  simp only [rfOK, Bool.and_eq_true, Bool.or_eq_true, decide_eq_true_eq] at h
  have := nmOK_NB h.1
  exact ⟨by omega, h.1, fun h2 => h.2.resolve_left (by omega)⟩
theorem sc_cut {i z c : Nat} (hz : z ≤ bs.length) (hi : i ≤ z) : sc (fun j => tx bs j == c) i (z - i) = i + sc (fun j => tx (cut bs i z) j == c) 0 (cut bs i z).length := by
  rw [cut_len hz]
  have e1 := sc_sh (fun j => tx bs j == c) i (z - i) 0
  rw [Nat.add_zero] at e1
  rw [e1]
  congr 1
  exact sc_cg (z - i) 0 fun j _ hj => by rw [cut_tx (by omega)]
theorem g93_s (H : cE C ea pa ca es) (w : wE es) (T : TX C t b room bs) {i z : Nat} (hz : z ≤ bs.length) (hr : room < 1000000) (hrf : rfOK (tx bs) i (z - i) = true) (hi : i ≤ z) {e : Nat} (he : e < es.length) : g93 3 (some t) (nI i) (nI z) (some (ea e)) C = some ((lead es e (cut bs i z)).map ea, C) := by
  have t5 := T.2.2.2.2.1
  obtain ⟨r0, _, r2⟩ := rf_at hrf
  have L := cut_len (bs := bs) (i := i) hz
  have tl : nty es e < es.length := by
    unfold nty
    cases ho : eOw (gE es e) with
    | none => exact he
    | some o => have := ((w.2 e he).1 o ho).1; dsimp only; omega
  unfold g93 lead
  dsimp only
  rw [if_neg (by simp), lt_46]
  simp only [Option.bind_some]
  rw [T.p (by decide) hi (by omega), sc_cut hz hi]
  have a := sc_ge (fun j => tx (cut bs i z) j == 46) (cut bs i z).length 0
  generalize sc (fun j => tx (cut bs i z) j == 46) 0 (cut bs i z).length = d at a
  simp (disch := omega) only [Option.bind_some, nI_leI]
  by_cases hd : d < (cut bs i z).length
  · rw [if_pos hd, if_neg (by omega), g87_s H w T (by omega) (by omega) hr]
    simp only [Option.bind_some, nI_1]
    rw [g89_o H w T (by omega) hz hr fun t ht => (fE_lt ht).1]
    have c1 : (cut bs i z).take d = cut bs i (i + d) := by
      rw [← cut_0, cut_cut (by omega)]
      rfl
    have c2 : (cut bs i z).drop (d + 1) = cut bs (i + d + 1) z := by
      rw [← cut_d, cut_cut (by omega), L]
      congr 1
      omega
    rw [c1, c2]
    rfl
  · rw [if_neg hd, if_pos (by omega), T.s (by omega), lt_65, lt_90]
    simp (disch := omega) only [Option.bind_some, g135_s, bI_in, bZ_0, g13_s H he]
    have c3 : tx (cut bs i z) 0 = tx bs i := cut_tx (by omega)
    have c4 : isBg (tx (cut bs i z) 0) = decide (65 ≤ tx bs i ∧ tx bs i ≤ 90) := by rw [c3]; simp [isBg]
    rw [c4]
    cases hb : decide (65 ≤ tx bs i ∧ tx bs i ≤ 90) with
    | true =>
      rw [if_neg (by simp), g87_s H w T hi hz hr]
      rfl
    | false =>
      rw [if_pos rfl, show some (ea (nty es e)) = (some (nty es e)).map ea from rfl, g89_o H w T hi hz hr fun t ht => by cases ht; exact tl]
      rfl
end PCENT
