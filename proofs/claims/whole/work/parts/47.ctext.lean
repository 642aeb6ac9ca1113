section PCTX
variable {C : xC} {t b room : Nat} {bs : List Nat}
theorem TX.s (T : TX C t b room bs) {i : Nat} (hi : i < 2 ^ 31) : g96 t (nI i) C = some (bI (tx bs i), C) := g96_s T hi
theorem TX.p (T : TX C t b room bs) {c i e : Nat} (hc : c < 256) (hi : i ≤ e) (he : e < 1000000) : g105 t (nI c) (nI i) (nI e) C = some (nI (sc (fun j => tx bs j == c) i (e - i)), C) := g105_s T hc hi he
theorem TX.k (T : TX C t b room bs) {i e : Nat} (hi : i ≤ e) (he : e < 1000000) : g106 t (nI i) (nI e) C = some (nI (skp (tx bs) i e), C) := by
  unfold g106
  refine l_sc (fun n j => gl106_2 n t (nI i) (nI e) (nI j) C) (fun j => !(tx bs j == 32)) (fun j => some (nI j, C)) e (fun n => ?_) (fun n j hj hp => ?_) (fun n j hj hp => ?_) (e - i) xFuel i (by omega) (pFuel _ (by omega))
  · simp (disch := omega) only [gl106_2, nI_leI]
    rw [if_pos (Nat.le_refl _)]
    rfl
  · simp (disch := omega) only [gl106_2, nI_leI, T.s, Option.bind_some, lt_32, bI_eq]
    rw [if_neg (by omega), if_neg (by simpa using hp)]
    rfl
  · simp (disch := omega) only [gl106_2, nI_leI, T.s, Option.bind_some, lt_32, bI_eq]
    rw [if_neg (by omega), if_pos (by simpa using hp), nI_1]
theorem g135_s (v lo hi : Int32) (C : xC) : g135 v lo hi C = some (bZ (decide (lo ≤ v ∧ v ≤ hi)), C) := by
  unfold g135
  rw [in_g]
  by_cases h : lo ≤ v ∧ v ≤ hi
  · rw [if_pos h, decide_eq_true h]
    rfl
  · rw [if_neg h, decide_eq_false h]
    rfl
theorem g136_s {c : Nat} (C : xC) : g136 (bI c) C = some (bZ (isFg c), C) := by
  unfold g136
  rw [in_g]
  simp (disch := omega) only [lt_48, lt_57, bI_in]
  by_cases h : 48 ≤ c ∧ c ≤ 57
  · rw [if_pos h]
    simp [isFg, h, bZ, gj136_17]
  · rw [if_neg h]
    have : isFg c = false := by simp [isFg]; omega
    rw [this]
    rfl
theorem g137_s {c : Nat} (C : xC) : g137 (bI c) C = some (bZ (isBg c || isSm c), C) := by
  have e := bI_toInt (c := c)
  have k : ∀ n : Nat, n < 256 → ((bI c < nI n) = (c < n ∨ 256 ≤ c)) ∧ ((bI c ≤ nI n) = (c ≤ n ∨ 256 ≤ c)) ∧ ((nI n < bI c) = (n < c ∧ c < 256)) := by
    intro n hn
    have e2 := nI_toInt (n := n) (by omega)
    refine ⟨propext ?_, propext ?_, propext ?_⟩
    · rw [Int32.lt_iff_toInt_lt, e, e2]; split <;> omega
    · rw [Int32.le_iff_toInt_le, e, e2]; split <;> omega
    · rw [Int32.lt_iff_toInt_lt, e, e2]; split <;> omega
  unfold g137 gj137_12 gj137_24 gj137_28 gj137_29
  rw [lt_65, lt_90, lt_97, lt_122]
  simp only [(k 65 (by decide)).1, (k 90 (by decide)).2.1, (k 97 (by decide)).1, (k 122 (by decide)).2.2]
  have q1 : (isBg c || isSm c) = decide ((65 ≤ c ∧ c ≤ 90) ∨ (97 ≤ c ∧ c ≤ 122)) := by
    simp [isBg, isSm]
  rw [q1]
  by_cases h1 : c < 65 ∨ 256 ≤ c
  · have d1 : decide ((65 ≤ c ∧ c ≤ 90) ∨ (97 ≤ c ∧ c ≤ 122)) = false := decide_eq_false (by omega)
    simp only [if_pos h1, if_pos (show c < 97 ∨ 256 ≤ c by omega), d1]
    rfl
  · by_cases h2 : c ≤ 90 ∨ 256 ≤ c
    · have d1 : decide ((65 ≤ c ∧ c ≤ 90) ∨ (97 ≤ c ∧ c ≤ 122)) = true := decide_eq_true (by omega)
      simp only [if_neg h1, if_pos h2, d1]
      rfl
    · by_cases h3 : c < 97 ∨ 256 ≤ c
      · have d1 : decide ((65 ≤ c ∧ c ≤ 90) ∨ (97 ≤ c ∧ c ≤ 122)) = false := decide_eq_false (by omega)
        simp only [if_neg h1, if_neg h2, if_pos h3, d1]
        rfl
      · by_cases h4 : 122 < c ∧ c < 256
        · have d1 : decide ((65 ≤ c ∧ c ≤ 90) ∨ (97 ≤ c ∧ c ≤ 122)) = false := decide_eq_false (by omega)
          simp only [if_neg h1, if_neg h2, if_neg h3, if_pos h4, d1]
          rfl
        · have d1 : decide ((65 ≤ c ∧ c ≤ 90) ∨ (97 ≤ c ∧ c ≤ 122)) = true := decide_eq_true (by omega)
          simp only [if_neg h1, if_neg h2, if_neg h3, if_neg h4, d1]
          rfl
theorem g107_s (T : TX C t b room bs) {i e : Nat} (hi : i ≤ e) (he : e < 1000000) : g107 t (nI i) (nI e) C = some (bZ (nmOK (tx bs) i (e - i)), C) := by
  unfold g107
  rw [pk_sub hi]
  simp (disch := omega) only [lt_2, lt_3, lt_4, lt_5, lt_6, lt_7, lt_8, lt_9, lt_10, lt_12, lt_13, lt_14, lt_15, lt_16, lt_20, lt_24, lt_25, lt_32, lt_39, lt_40, lt_41, lt_45, lt_46, lt_48, lt_57, lt_60, lt_63, lt_64, lt_65, lt_90, lt_91, lt_93, lt_97, lt_120, lt_121, lt_122, lt_123, lt_125, lt_126, lt_130, lt_600, lt_960, lt_999, lt_1000, lt_1091, lt_1200, lt_3000, lt_4000, lt_4001, lt_4002, lt_4800, lt_24000, nI_add, pk_mul, nI_leI, nI_ltI, nI_eq, nI_1, T.s, Option.bind_some, g137_s, bZ_0]
  have key := l_sc (fun n j => gl107_23 n t (nI i) (nI e) (nI j) C) (fun j => !isNB (tx bs j)) (fun j => some (bZ (decide (i < e) && decide (j = e)), C)) e (fun n => ?_) (fun n j hj hp => ?_) (fun n j hj hp => ?_) (e - i) xFuel i (by omega) (pFuel _ (by omega))
  · unfold nmOK
    rw [show i + (e - i) = e by omega]
    by_cases h1 : 10 < e - i
    · rw [if_pos h1, decide_eq_false (show ¬ e - i ≤ 10 by omega)]
      simp [gj107_19, bZ]
    · rw [if_neg h1, decide_eq_true (show e - i ≤ 10 by omega)]
      cases h2 : isBg (tx bs i) || isSm (tx bs i) with
      | false =>
        rw [if_pos rfl]
        simp [gj107_19, bZ]
      | true =>
        rw [if_neg (by simp)]
        refine Eq.trans key ?_
        rw [show decide (1 ≤ e - i) = decide (i < e) from decide_eq_decide.mpr (by omega)]
        simp
  · simp (disch := omega) only [gl107_23, nI_leI]
    rw [if_pos (Nat.le_refl _)]
    by_cases h : e ≤ i
    · rw [if_pos h, decide_eq_false (show ¬ i < e by omega)]
      rfl
    · rw [if_neg h, decide_eq_true (show i < e by omega)]
      rfl
  · simp (disch := omega) only [gl107_23, nI_leI, T.s, Option.bind_some, g137_s, g136_s, bZ_0]
    simp only [isNB, Bool.not_eq_true', Bool.or_eq_false_iff] at hp
    rw [if_neg (by omega), if_pos (by simp [hp.1.1, hp.1.2]), if_pos hp.2, decide_eq_false (show ¬ j = e by omega)]
    simp [bZ]
  · simp (disch := omega) only [gl107_23, nI_leI, T.s, Option.bind_some, g137_s, g136_s, bZ_0, gj107_52, nI_1]
    simp only [isNB, Bool.not_eq_false', Bool.or_eq_true] at hp
    rw [if_neg (by omega)]
    by_cases h1 : (isBg (tx bs j) || isSm (tx bs j)) = false
    · rw [if_pos h1, if_neg (by simp at h1; simp [h1.1, h1.2] at hp; simp [hp])]
    · rw [if_neg h1]
theorem g108_s (T : TX C t b room bs) {lo hi : Nat} (hl : lo < 256) (hh : hi < 256) : g108 t (nI lo) (nI hi) C = some (bZ (nmOK (tx bs) 0 bs.length && (decide (lo ≤ tx bs 0) && decide (tx bs 0 ≤ hi))), C) := by
  have t2 := T.2.1
  have t5 := T.2.2.2.2.1
  have t4 := T.2.2.2.1
  unfold g108
  rw [t2]
  by_cases hbig : bs.length < 1000000
  · have e1 := g107_s T (i := 0) (e := bs.length) (Nat.zero_le _) hbig
    have e2 := T.s (i := 0) (by decide)
    rw [show (0 : Int32) = nI 0 from rfl, e1]
    simp (disch := omega) only [Option.bind_some, e2, g135_s, bZ_0, bI_in, Nat.sub_zero]
    have q : decide (lo ≤ tx bs 0 ∧ tx bs 0 ≤ hi) = (decide (lo ≤ tx bs 0) && decide (tx bs 0 ≤ hi)) := by simp
    rw [q]
    cases nmOK (tx bs) 0 bs.length <;> cases (decide (lo ≤ tx bs 0) && decide (tx bs 0 ≤ hi)) <;> rfl
  · have h10 : (10 : Int32) < nI bs.length - 0 := by
      rw [show (0 : Int32) = nI 0 from rfl, pk_sub (Nat.zero_le _), lt_10]
      exact nI_lt (by omega) (by omega)
    unfold g107
    rw [if_pos h10]
    have : nmOK (tx bs) 0 bs.length = false := by
      unfold nmOK
      rw [decide_eq_false (show ¬ bs.length ≤ 10 by omega)]
      simp
    rw [this]
    rfl
theorem g109_s (T : TX C t b room bs) {i e : Nat} (hi : i ≤ e) (he : e < 1000000) : g109 t (nI i) (nI e) C = some (bZ (rfOK (tx bs) i (e - i)), C) := by
  unfold g109 rfOK
  rw [lt_46, T.p (by decide) hi he]
  have a := sc_ge (fun j => tx bs j == 46) (e - i) i
  dsimp only
  rw [show i + (e - i) = e by omega]
  generalize sc (fun j => tx bs j == 46) i (e - i) = d at a
  simp (disch := omega) only [Option.bind_some, g107_s T, bZ_0, nI_eq, nI_1]
  cases nmOK (tx bs) i (d - i) with
  | false => rfl
  | true =>
    rw [if_neg (by simp)]
    by_cases h : d = e
    · rw [if_pos h, decide_eq_true h]
      rfl
    · rw [if_neg h, decide_eq_false h]
      cases nmOK (tx bs) (d + 1) (e - (d + 1)) <;> rfl
theorem g110_s (T : TX C t b room bs) {i e : Nat} (hi : i ≤ e) (he : e < 1000000) : g110 t (nI i) (nI e) C = some (bZ (nuOK (tx bs) i (e - i)), C) := by
  unfold g110
  have key := l_sc (fun n j => gl110_2 n t (nI i) (nI e) (nI j) C) (fun j => !isFg (tx bs j)) (fun j => some (bZ (decide (1 ≤ e - i) && decide (e - i ≤ 4) && decide (j = e)), C)) e (fun n => ?_) (fun n j hj hp => ?_) (fun n j hj hp => ?_) (e - i) xFuel i (by omega) (pFuel _ (by omega))
  · refine Eq.trans key ?_
    unfold nuOK
    rw [show i + (e - i) = e by omega]
  · simp (disch := omega) only [gl110_2, nI_leI, pk_sub, g135_s, Option.bind_some, lt_4]
    rw [if_pos (Nat.le_refl _), if_pos bZ_p]
    congr 3
    rw [show (1 : Int32) = nI 1 from rfl]
    simp (disch := omega) only [nI_leI]
    simp
  · simp (disch := omega) only [gl110_2, nI_leI, T.s, Option.bind_some, g136_s, bZ_0]
    rw [if_neg (by omega), if_pos (by simpa using hp), decide_eq_false (show ¬ j = e by omega)]
    simp [bZ]
  · simp (disch := omega) only [gl110_2, nI_leI, T.s, Option.bind_some, g136_s, bZ_0, nI_1]
    rw [if_neg (by omega), if_neg (by simpa using hp)]
theorem sb_inj {c d : Nat} (hc : c < 256) (hd : d < 256) : sb_b c = sb_b d ↔ c = d := by
  refine ⟨fun h => ?_, fun h => by rw [h]⟩
  have h1 := (sb_byte c hc).1
  rw [h, (sb_byte d hd).1] at h1
  exact ((nI_eq (by omega) (by omega)).mp h1).symm
theorem TX.ld (T : TX C t b room bs) {i : Nat} (hi : i < bs.length) : cLd C b (nI i) = some (sb_b (tx bs i)) := by
  obtain ⟨t1, t2, t3, t4, t5, t6⟩ := T
  unfold cLd
  rw [t3, if_pos (xout_nI (by omega) (by omega)), nI_clamp (by omega), (t6 i hi).2]
  rfl
theorem g103_s {t2 b2 r2 : Nat} {l : List Nat} (T : TX C t b room l) (U : TX C t2 b2 r2 bs) {i e : Nat} (hi : i ≤ e) (he : e ≤ bs.length) (hr : r2 < 1000000) : g103 t (some t2) (nI i) (nI e) C = some (bZ (decide (l = cut bs i e)), C) := by
  have u5 := U.2.2.2.2.1
  have u4 := U.2.2.2.1
  have v5 := T.2.2.2.2.1
  have v4 := T.2.2.2.1
  unfold g103
  simp only [Option.bind_some, T.2.1, U.2.1]
  rw [if_neg (nI_pos (by omega)), if_neg (nI_nlt he (by omega)), pk_sub hi]
  by_cases hl : e - i = l.length
  · rw [if_pos (by rw [hl])]
    have key := l_sc (fun n j => gl103_27 n t (some t2) (nI i) (nI e) (nI j) C) (fun j => !(tx l j == tx bs (i + j))) (fun j => some (bZ (decide (j = l.length)), C)) l.length (fun n => ?_) (fun n j hj hp => ?_) (fun n j hj hp => ?_) l.length xFuel 0 (by omega) (pFuel _ (by omega))
    · refine Eq.trans key ?_
      congr 3
      rw [decide_eq_decide, tx_ext, cut_len he]
      constructor
      · intro h
        refine ⟨hl.symm, fun k hk => ?_⟩
        have := sc_no (fun j => !(tx l j == tx bs (i + j))) l.length 0 k (by omega) (by omega)
        rw [cut_tx hk]
        simpa using this
      · rintro ⟨_, h⟩
        refine sc_un _ (Nat.zero_le _) (by omega) (fun j _ hj => ?_) (fun h9 => by omega)
        rw [h j (by omega), cut_tx (by omega)]
        simp
    · simp only [gl103_27, T.2.1]
      rw [if_pos (nI_le (Nat.le_refl _) (by omega))]
      rfl
    · simp (disch := omega) only [gl103_27, T.2.1, T.1, U.1, nI_leI, Option.bind_some, T.ld, nI_add, U.ld]
      have c1 := (T.2.2.2.2.2 j hj).1
      have c2 := (U.2.2.2.2.2 (i + j) (by omega)).1
      simp only [sb_inj (show tx l j < 256 from c1) (show tx bs (i + j) < 256 from c2)]
      rw [if_neg (by omega), if_neg (by simpa using hp), decide_eq_false (show ¬ j = l.length by omega)]
      rfl
    · simp (disch := omega) only [gl103_27, T.2.1, T.1, U.1, nI_leI, Option.bind_some, T.ld, nI_add, U.ld, nI_1]
      have c1 := (T.2.2.2.2.2 j hj).1
      have c2 := (U.2.2.2.2.2 (i + j) (by omega)).1
      simp only [sb_inj (show tx l j < 256 from c1) (show tx bs (i + j) < 256 from c2)]
      rw [if_neg (by omega), if_pos (by simpa using hp)]
  · rw [if_neg fun h9 => hl ((nI_eq (by omega) (by omega)).mp h9), decide_eq_false fun h9 => hl (by rw [h9, cut_len he])]
    rfl
def wQ (q : Nat) : List Nat := if q = 0 then wInh else if q = 1 then wCode else if q = 2 then wLink else if q < 8 then wTag (q - 1) else []
theorem wQ_ok : ∀ q, q < 9 → (wQ q).length < 10 ∧ xqL q = some (nI (wQ q).length) ∧ ∀ i, i < (wQ q).length → xqC q (nI i) = some (nI ((wQ q).getD i 999)) ∧ (wQ q).getD i 999 < 256 := by decide
theorem isW_al (f : Nat → Nat) : ∀ (w : List Nat) i, isW f i w = al (fun j => f (i + j) == w.getD j 999) 0 w.length := by
  have sh : ∀ k i (p : Nat → Bool), al p (i + 1) k = al (fun j => p (j + 1)) i k := by
    intro k
    induction k with
    | zero => intro i p; rfl
    | succ k ih => intro i p; simp only [al, ih]
  intro w
  induction w with
  | nil => intro i; rfl
  | cons c w ih =>
    intro i
    simp only [isW, List.length_cons, al, ih, sh, List.getD_cons_zero, List.getD_cons_succ, Nat.add_zero]
    congr 2
    funext j
    rw [show i + 1 + j = i + (j + 1) by omega]
theorem g104_s (T : TX C t b room bs) {i q : Nat} (hq : q < 9) (hi : i < 1000000) : g104 t (nI i) q C = some (bZ (isW (tx bs) i (wQ q)), C) := by
  obtain ⟨w1, w2, w3⟩ := wQ_ok q hq
  unfold g104
  have key := l_sc (fun n j => gl104_2 n t (nI i) q (nI j) C) (fun j => !(tx bs (i + j) == (wQ q).getD j 999)) (fun j => some (bZ (decide (j = (wQ q).length)), C)) (wQ q).length (fun n => ?_) (fun n j hj hp => ?_) (fun n j hj hp => ?_) (wQ q).length xFuel 0 (by omega) (pFuel _ (by omega))
  · refine Eq.trans key ?_
    congr 3
    rw [isW_al, Bool.eq_iff_iff, decide_eq_true_eq, al_iff]
    constructor
    · intro h j _ hj
      have := sc_no (fun j => !(tx bs (i + j) == (wQ q).getD j 999)) (wQ q).length 0 j (by omega) (by omega)
      simpa using this
    · intro h
      refine sc_un _ (Nat.zero_le _) (by omega) (fun j _ hj => ?_) (fun h9 => by omega)
      rw [h j (by omega) (by omega)]
      rfl
  · simp (disch := omega) only [gl104_2, w2, Option.bind_some, nI_leI]
    rw [if_pos (Nat.le_refl _)]
    rfl
  · simp (disch := omega) only [gl104_2, w2, Option.bind_some, nI_leI, nI_add, T.s, (w3 j hj).1, bI_eq (w3 j hj).2]
    rw [if_neg (by omega), if_neg (by simpa using hp), decide_eq_false (show ¬ j = (wQ q).length by omega)]
    rfl
  · simp (disch := omega) only [gl104_2, w2, Option.bind_some, nI_leI, nI_add, T.s, (w3 j hj).1, bI_eq (w3 j hj).2, nI_1]
    rw [if_neg (by omega), if_pos (by simpa using hp)]
end PCTX
