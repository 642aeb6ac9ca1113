section PMPG
variable {S : mS} {es : List En} {w : Nat} {ls : Bool}
abbrev pqD (S S' : mS) : Prop := df [45, 47, 48, 49, 51, 61, 63, 68] [44, 46, 50, 60, 62, 64, 65, 66, 67, 69, 70] S S'
theorem mEs_pq {S' : mS} (D : pqD S S') (H : mEs S es) (w0 : wE es) : mEs S' es := mEs_df D ⟨by decide, by decide⟩ H w0
/-- an empty line in the page -/
theorem pR_e {N : Nat} {d : Dr} (R : pR N S d) (hb : d.1.1.length < 2 ^ 28) : ∃ S', g199 S = some S' ∧ pR N S' (ouL d.1 [], d.2) ∧ df [45, 47, 49] [44, 46] S S' := by
  obtain ⟨D, ho, T, hT, h48⟩ := R
  obtain ⟨U, u1, u2, u3⟩ := g199_s D (by omega) ho.1 ho.2
  refine ⟨U, u1, ⟨?_, ouL_w ho [], tS_df u3 (by decide) T, hT, by rw [u3.1 48 (by decide)]; exact h48⟩, u3⟩
  unfold dO ouL
  dsimp only
  rw [List.append_nil, List.length_nil, if_neg (Nat.not_lt_zero _)]
  exact u2
/-- a block with what is ahead of it -/
theorem g211_a (H : mEs S es) (w0 : wE es) {q : Nat × Nat} (hq : vI es q) (hw : w ≤ 60) {d : Dr} (R : pR es.length S d) (hb : d.1.1.length + 10 < 2 ^ 24) (hs : d.2.2 < 2 ^ 29) (ap : Bool) (k : mS → Option mS) (hk : k = fun T => g211 (nI q.1) (nI (24 * q.1 + q.2)) (nI w) (bZ ls) T) : ∃ S', (if ap = true then (g199 S).bind k else k S) = some S' ∧ pR es.length S' (lay1 es w ls ap q.1 ((gC es q.1).2.1.getD q.2 bkD) d) ∧ pgD S S' := by
  unfold lay1
  cases ap with
  | false =>
    rw [if_neg (show ¬ false = true by decide), if_neg (show ¬ false = true by decide), hk]
    exact g211_s H w0 hq.1 hq.2.1 hq.2.2 hw R (by omega) hs
  | true =>
    rw [if_pos (Eq.refl true), if_pos (Eq.refl true)]
    obtain ⟨T, t1, t2, t3⟩ := pR_e R (by omega)
    rw [t1]
    simp only [bS]
    rw [hk]
    have D1 : pgD S T := t3.mono (by decide) (by decide)
    have e1 : (ouL d.1 []).1.length = d.1.1.length + 1 := ouL_len (o := d.1) []
    obtain ⟨d2, hd2⟩ : ∃ d2 : Dr, d2 = (ouL d.1 [], d.2) := ⟨_, rfl⟩
    have h1 : d2.1.1.length = d.1.1.length + 1 := by rw [hd2]; exact e1
    have h2 : d2.2.2 = d.2.2 := by rw [hd2]
    rw [← hd2] at t2 ⊢
    obtain ⟨U, u1, u2, u3⟩ := g211_s (ls := ls) (mEs_pg D1 H w0) w0 hq.1 hq.2.1 hq.2.2 hw t2 (by omega) (by omega)
    exact ⟨U, u1, u2, D1.tr u3⟩
/-- the story -/
theorem g214_b (w0 : wE es) (hw : w ≤ 60) (l : List (Nat × Nat)) (hl : l.length ≤ 960) (hv : ∀ q ∈ l, vI es q ∧ isTg (bSo ((gC es q.1).2.1.getD q.2 bkD)) = false) (hh : ∀ q r, l = q :: r → bJo ((gC es q.1).2.1.getD q.2 bkD) = false) (d0 : Dr) (h0 : d0.2.2 = 0) (x1 x3 x4 : Int32) (hx3 : ls = decide (x3 = 1)) : ∀ m n k d (S : mS), k + m = l.length → m < n → mEs S es → qS S l → pR es.length S d → d = layAll es w ls ((l.take k).map (bkI es)) none d0 → ouW d0.1 → d.2.2 ≤ 435600 * k → d.1.1.length ≤ 130000 → ∃ S' d' x5, gl214_84 n x1 (nI w) x3 x4 (nI k) S = gj214_157 x1 (nI w) x3 x4 x5 S' ∧ pR es.length S' d' ∧ (d' = layAll es w ls (l.map (bkI es)) none d0 ∨ (4000 < d'.1.1.length ∧ 4000 < (layAll es w ls (l.map (bkI es)) none d0).1.1.length)) ∧ d'.1.1.length ≤ 130000 ∧ d'.2.2 ≤ 435600 * 960 ∧ pqD S S' := by
  have w1 := w0.1
  intro m
  induction m with
  | zero =>
    intro n k d S hk hn H Q R hd ho0 hsum hlen
    obtain ⟨n, rfl⟩ : ∃ j, n = j + 1 := ⟨n - 1, by omega⟩
    rw [gl214_84]
    dsimp only
    rw [Q.1, if_pos (nI_le (by omega) (by omega))]
    refine ⟨S, d, nI k, rfl, R, Or.inl ?_, hlen, Nat.le_trans hsum (Nat.mul_le_mul_left _ (by omega)), df.rfl'⟩
    rw [hd, List.take_of_length_le (by omega)]
  | succ m ih =>
    intro n k d S hk hn H Q R hd ho0 hsum hlen
    obtain ⟨n, rfl⟩ : ∃ j, n = j + 1 := ⟨n - 1, by omega⟩
    obtain ⟨dO1, ho, T, hT, h48⟩ := id R
    rw [gl214_84]
    dsimp only
    rw [Q.1, if_neg (nI_ge (by omega) (by omega)), dO1.1.1]
    by_cases hfull : 4000 < d.1.1.length
    · rw [if_pos (show (4000 : Int32) < _ from nI_lt (a := 4000) hfull (by omega))]
      refine ⟨S, d, nI k, rfl, R, Or.inr ⟨hfull, ?_⟩, hlen, Nat.le_trans hsum (Nat.mul_le_mul_left _ (by omega)), df.rfl'⟩
      have e1 : l.map (bkI es) = (l.take k).map (bkI es) ++ (l.drop k).map (bkI es) := by rw [← List.map_append, List.take_append_drop]
      rw [e1, layAll_app, ← hd]
      have := (layAll_len (w := w) (ls := ls) w0 hw (l.drop k) (lastA ((l.take k).map (bkI es)) none) d (fun q hq => (hv q (List.mem_of_mem_drop hq)).1) ho).2.1
      generalize layAll es w ls ((l.drop k).map (bkI es)) (lastA ((l.take k).map (bkI es)) none) d = Y at this ⊢
      omega
    · rw [if_neg (show ¬ (4000 : Int32) < _ from nI_nlt (a := 4000) (by omega) (by decide))]
      have hkl : k < l.length := by omega
      have hqm : l.getD k (0, 0) ∈ l := gD_mem hkl
      obtain ⟨q1, q2⟩ := Q.2 k hkl
      obtain ⟨v1, v2⟩ := hv _ hqm
      -- whether it is joined
      have hap : apart (lastA ((l.take k).map (bkI es)) none) ((gC es (l.getD k (0, 0)).1).2.1.getD (l.getD k (0, 0)).2 bkD) = !bJo ((gC es (l.getD k (0, 0)).1).2.1.getD (l.getD k (0, 0)).2 bkD) := by
        cases k with
        | zero =>
          cases hl2 : l with
          | nil => rw [hl2] at hkl; exact absurd hkl (Nat.not_lt_zero _)
          | cons q r =>
            have := hh q r hl2
            rw [List.getD_cons_zero, this]
            rfl
        | succ k =>
          have e2 : l.take (k + 1) = l.take k ++ [l.getD k (0, 0)] := take_s (0, 0) (by omega)
          rw [e2, List.map_append, lastA_app]
          show apart (some _) _ = _
          unfold apart
          dsimp only
          rw [v2]
          rfl
      have htake : l.take (k + 1) = l.take k ++ [l.getD k (0, 0)] := take_s (0, 0) hkl
      have hstep : layAll es w ls ((l.take (k + 1)).map (bkI es)) none d0 = lay1 es w ls (!bJo ((gC es (l.getD k (0, 0)).1).2.1.getD (l.getD k (0, 0)).2 bkD)) (l.getD k (0, 0)).1 ((gC es (l.getD k (0, 0)).1).2.1.getD (l.getD k (0, 0)).2 bkD) d := by
        rw [htake, List.map_append, layAll_app, ← hd, ← hap]
        rfl
      generalize l.getD k (0, 0) = q at q1 q2 v1 v2 hqm hstep
      obtain ⟨_, _, n1, _, n3, _⟩ := mEn_cm H w0 v1.1
      obtain ⟨b1, b2⟩ := n3 q.2 v1.2.1
      have hq1 := v1.1
      have hq2 := v1.2.1
      rw [ld_67 (by omega), q2]
      simp only [bS]
      rw [ld_23 (by omega), b1.2.2.2.2.2.2.2]
      simp only [bS, bZ_0]
      have e122 : ∀ T : mS, T.2 66 k = nI q.1 → T.2 67 k = nI (24 * q.1 + q.2) → gj214_122 (gl214_84 n) x1 (nI w) x3 x4 (nI k) T = (g211 (nI q.1) (nI (24 * q.1 + q.2)) (nI w) (bZ ls) T).bind fun S_2 => gl214_84 n x1 (nI w) x3 x4 (nI (k + 1)) S_2 := fun T t1 t2 => by
        unfold gj214_122 gj214_148
        rw [ld_66 (by omega), t1, ld_67 (by omega), t2, nI_1]
        simp only [bS]
        rw [hx3]
        by_cases h3 : x3 = 1
        · rw [if_pos h3, decide_eq_true h3, bZ_t]
        · rw [if_neg h3, decide_eq_false h3, bZ_f]
      obtain ⟨U, u1, u2, u3⟩ := g211_a (ls := ls) H w0 v1 hw R (by omega) (by omega) (!bJo ((gC es q.1).2.1.getD q.2 bkD)) _ rfl
      have hlen2 := lay1_len (w := w) (ls := ls) w0 hw v1 (!bJo ((gC es q.1).2.1.getD q.2 bkD)) ho
      have eU : (if bJo ((gC es q.1).2.1.getD q.2 bkD) = false then (g199 S).bind fun S_7 => gj214_122 (gl214_84 n) x1 (nI w) x3 x4 (nI k) S_7 else gj214_122 (gl214_84 n) x1 (nI w) x3 x4 (nI k) S) = gl214_84 n x1 (nI w) x3 x4 (nI (k + 1)) U := by
        cases hb : bJo ((gC es q.1).2.1.getD q.2 bkD) with
        | false =>
          rw [hb] at u1
          rw [if_pos (show (!false) = true from rfl)] at u1
          rw [if_pos (Eq.refl false)]
          obtain ⟨T, t1, t2, t3⟩ := pR_e R (by omega)
          rw [t1] at u1 ⊢
          simp only [bS] at u1 ⊢
          rw [e122 T (by rw [t3.2 66 (by decide)]; exact q1) (by rw [t3.2 67 (by decide)]; exact q2), u1]
          simp only [bS]
        | true =>
          rw [hb] at u1
          rw [if_neg (show ¬ (!true) = true by decide)] at u1
          rw [if_neg (show ¬ true = false by decide), e122 S q1 q2, u1]
          simp only [bS]
      rw [eU]
      rw [← hstep] at u2 hlen2
      have DU : pqD S U := u3.mono (by decide) (by decide)
      have QU : qS U l := ⟨by rw [u3.1 68 (by decide)]; exact Q.1, fun i hi => by rw [u3.2 66 (by decide), u3.2 67 (by decide)]; exact Q.2 i hi⟩
      obtain ⟨f1, f2, f3, f4⟩ := hlen2
      obtain ⟨S', d', x5, y1, y2, y3, y4, y5, y6⟩ := ih n (k + 1) (layAll es w ls ((l.take (k + 1)).map (bkI es)) none d0) U (by omega) (by omega) (mEs_pq DU H w0) QU u2 rfl ho0 (by
        generalize layAll es w ls ((l.take (k + 1)).map (bkI es)) none d0 = Y at f4 ⊢
        omega) (by
        generalize layAll es w ls ((l.take (k + 1)).map (bkI es)) none d0 = Y at f3 ⊢
        omega)
      exact ⟨S', d', x5, y1, y2, y3, y4, y5, DU.tr y6⟩
/-- tags: whether one has been laid out -/
def bgR (ah : Option Bk) (bg : Bool) : Prop := match ah with
  | none => bg = false
  | some a => bg = isTg (bSo a)
theorem g213_k (w0 : wE es) (hw : w ≤ 60) {e s : Nat} (he : e < es.length) (hs : 2 ≤ s ∧ s ≤ 6) (k6 : Int32 → Int32 → Int32 → Int32 → Int32 → mS → Option mS) : ∀ m n k d ah bg (S : mS), k + m = (gC es e).2.1.length → m < n → mEs S es → pR es.length S d → bgR ah bg → d.1.1.length + 130000 * m + 20 ≤ 2 ^ 24 → d.2.2 + 435600 * m < 2 ^ 29 → ∃ S' bg', gl213_16 k6 n (nI e) (nI w) (bZ ls) (bZ bg) (nI s) (nI k) S = k6 (nI e) (nI w) (bZ ls) (bZ bg') (nI (s + 1)) S' ∧ pR es.length S' (layAll es w ls ((tgI es e s k m).map (bkI es)) ah d) ∧ bgR (lastA ((tgI es e s k m).map (bkI es)) ah) bg' ∧ ((layAll es w ls ((tgI es e s k m).map (bkI es)) ah d).1.1.length ≤ d.1.1.length + 130000 * m ∧ (layAll es w ls ((tgI es e s k m).map (bkI es)) ah d).2.2 ≤ d.2.2 + 435600 * m) ∧ pgD S S' := by
  have w1 := w0.1
  intro m
  induction m with
  | zero =>
    intro n k d ah bg S hk hn H R hbg hb hsm
    obtain ⟨n, rfl⟩ : ∃ j, n = j + 1 := ⟨n - 1, by omega⟩
    obtain ⟨e14, _, n1, _⟩ := mEn_cm H w0 he
    rw [gl213_16]
    dsimp only
    rw [ld_14 (by omega), e14]
    simp only [bS]
    rw [if_pos (nI_le (by omega) (by omega)), nI_1]
    exact ⟨S, bg, rfl, R, hbg, ⟨Nat.le_add_right _ _, Nat.le_add_right _ _⟩, df.rfl'⟩
  | succ m ih =>
    intro n k d ah bg S hk hn H R hbg hb hsm
    obtain ⟨n, rfl⟩ : ∃ j, n = j + 1 := ⟨n - 1, by omega⟩
    obtain ⟨e14, _, n1, _, n3, _⟩ := mEn_cm H w0 he
    obtain ⟨b1, b2⟩ := n3 k (by omega)
    have b8 := b2.1
    rw [gl213_16]
    dsimp only
    rw [ld_14 (by omega), e14]
    simp only [bS]
    rw [if_neg (nI_ge (by omega) (by omega)), lt_24, pk_mul, nI_add, ld_16 (by omega), b1.1]
    simp only [bS]
    unfold tgI
    rw [List.range'_succ, List.flatMap_cons]
    by_cases hso : bSo ((gC es e).2.1.getD k bkD) = s
    · rw [if_pos (by rw [hso]), if_pos hso, List.singleton_append, List.map_cons, layAll_s]
      have hq : vI es (e, k) := ⟨he, by show k < (gC es e).2.1.length; omega, by show bSo ((gC es e).2.1.getD k bkD) ≠ 7; omega⟩
      have htg : isTg (bSo ((gC es e).2.1.getD k bkD)) = true := isTg_iff.mpr (by omega)
      have hap : apart ah ((gC es e).2.1.getD k bkD) = !bg := by
        unfold apart
        cases ah with
        | none =>
          have hbg : bg = false := hbg
          rw [hbg]
          rfl
        | some a =>
          have hbg : bg = isTg (bSo a) := hbg
          dsimp only
          rw [if_pos htg, hbg]
      dsimp only
      rw [hap]
      obtain ⟨U, u1, u2, u3⟩ := g211_a (ls := ls) H w0 hq hw R (by omega) (by omega) (!bg) _ rfl
      have hl2 := lay1_len (w := w) (ls := ls) w0 hw hq (!bg) R.2.1
      dsimp only at u1 u2 hl2
      have eU : (if bZ bg = 0 then (g199 S).bind fun S_7 => gj213_57 k6 (gl213_16 k6 n) (nI e) (nI w) (bZ ls) (bZ bg) (nI s) (nI k) (nI (24 * e + k)) S_7 else gj213_57 k6 (gl213_16 k6 n) (nI e) (nI w) (bZ ls) (bZ bg) (nI s) (nI k) (nI (24 * e + k)) S) = gl213_16 k6 n (nI e) (nI w) (bZ ls) (bZ true) (nI s) (nI (k + 1)) U := by
        unfold gj213_57 gj213_69
        rw [nI_1]
        cases bg with
        | false =>
          rw [if_pos (show (!false) = true from rfl)] at u1
          rw [if_pos bZf]
          obtain ⟨T, t1, t2, t3⟩ := pR_e R (by omega)
          rw [t1] at u1 ⊢
          simp only [bS] at u1 ⊢
          rw [u1]
          simp only [bS]
          rfl
        | true =>
          rw [if_neg (show ¬ (!true) = true by decide)] at u1
          rw [if_neg bZt, u1]
          simp only [bS]
          rfl
      rw [eU]
      generalize lay1 es w ls (!bg) e ((gC es e).2.1.getD k bkD) d = d2 at u2 hl2 ⊢
      obtain ⟨f1, f2, f3, f4⟩ := hl2
      obtain ⟨V, bg', v1, v2, v3, v4, v5⟩ := ih n (k + 1) d2 (some ((gC es e).2.1.getD k bkD)) true U (by omega) (by omega) (mEs_pg u3 H w0) u2 (show true = isTg _ from htg.symm) (by omega) (by omega)
      refine ⟨V, bg', v1, v2, v3, ?_, u3.tr v5⟩
      unfold tgI at v4
      generalize layAll es w ls _ _ d2 = Y at v4 ⊢
      omega
    · rw [if_neg (nI_ne hso (by omega) (by omega)), if_neg hso, List.nil_append]
      unfold gj213_69
      rw [nI_1]
      obtain ⟨V, bg', v1, v2, v3, v4, v5⟩ := ih n (k + 1) d ah bg S (by omega) (by omega) H R hbg (by omega) (by omega)
      refine ⟨V, bg', v1, v2, v3, ?_, v5⟩
      unfold tgI at v4
      generalize layAll es w ls _ _ d = Y at v4 ⊢
      omega
/-- the tags -/
theorem g213_s (H : mEs S es) (w0 : wE es) (hw : w ≤ 60) {e : Nat} (he : e < es.length) {d : Dr} {ah : Option Bk} (R : pR es.length S d) (hah : bgR ah false) (hb : d.1.1.length ≤ 130000) (hsm : d.2.2 ≤ 435600 * 960) : ∃ S', g213 (nI e) (nI w) (bZ ls) S = some S' ∧ pR es.length S' (layAll es w ls (tags es (some e)) ah d) ∧ ((layAll es w ls (tags es (some e)) ah d).1.1.length ≤ 2 ^ 24 ∧ (layAll es w ls (tags es (some e)) ah d).2.2 < 2 ^ 29) ∧ pgD S S' := by
  have w1 := w0.1
  obtain ⟨c1, _⟩ := gC_bd w0 he
  have s1 : ∀ n (x : Int32) (so : Nat) (Z : mS), so ≤ 6 → gl213_6 (n + 1) (nI e) (nI w) (bZ ls) x (nI so) Z = gl213_16 (gl213_6 n) xFuel (nI e) (nI w) (bZ ls) x (nI so) (nI 0) Z := fun n x so Z hso => by
    rw [gl213_6]
    dsimp only
    rw [if_neg (show ¬ (6 : Int32) < nI so from nI_nlt (a := 6) hso (by decide))]
    rfl
  have s2 : ∀ n (x : Int32) (Z : mS), gl213_6 (n + 1) (nI e) (nI w) (bZ ls) x (nI 7) Z = some Z := fun n x Z => by
    rw [gl213_6]
    dsimp only
    rw [if_pos (show (6 : Int32) < nI 7 by decide)]
  rw [tags_I]
  simp only [List.flatMap_cons, List.flatMap_nil, List.append_nil, List.map_append, layAll_app]
  obtain ⟨S2, g2, a1, a2, a3, a4, a5⟩ := g213_k (ls := ls) w0 hw he (s := 2) (by decide) (gl213_6 999999) (gC es e).2.1.length xFuel 0 d ah false S (by omega) (pFuel _ (by omega)) H R hah (by omega) (by omega)
  have H2 := mEs_pg a5 H w0
  generalize layAll es w ls ((tgI es e 2 0 (gC es e).2.1.length).map (bkI es)) ah d = d2 at a2 a4 ⊢
  generalize lastA ((tgI es e 2 0 (gC es e).2.1.length).map (bkI es)) ah = h2 at a3 ⊢
  obtain ⟨S3, g3, b1, b2, b3, b4, b5⟩ := g213_k (ls := ls) w0 hw he (s := 3) (by decide) (gl213_6 999998) (gC es e).2.1.length xFuel 0 d2 h2 g2 S2 (by omega) (pFuel _ (by omega)) H2 a2 a3 (by omega) (by omega)
  have H3 := mEs_pg b5 H2 w0
  generalize layAll es w ls ((tgI es e 3 0 (gC es e).2.1.length).map (bkI es)) h2 d2 = d3 at b2 b4 ⊢
  generalize lastA ((tgI es e 3 0 (gC es e).2.1.length).map (bkI es)) h2 = h3 at b3 ⊢
  obtain ⟨S4, g4, c1', c2, c3, c4, c5⟩ := g213_k (ls := ls) w0 hw he (s := 4) (by decide) (gl213_6 999997) (gC es e).2.1.length xFuel 0 d3 h3 g3 S3 (by omega) (pFuel _ (by omega)) H3 b2 b3 (by omega) (by omega)
  have H4 := mEs_pg c5 H3 w0
  generalize layAll es w ls ((tgI es e 4 0 (gC es e).2.1.length).map (bkI es)) h3 d3 = d4 at c2 c4 ⊢
  generalize lastA ((tgI es e 4 0 (gC es e).2.1.length).map (bkI es)) h3 = h4 at c3 ⊢
  obtain ⟨S5, g5, d1, d2', d3', d4', d5⟩ := g213_k (ls := ls) w0 hw he (s := 5) (by decide) (gl213_6 999996) (gC es e).2.1.length xFuel 0 d4 h4 g4 S4 (by omega) (pFuel _ (by omega)) H4 c2 c3 (by omega) (by omega)
  have H5 := mEs_pg d5 H4 w0
  generalize layAll es w ls ((tgI es e 5 0 (gC es e).2.1.length).map (bkI es)) h4 d4 = e5 at d2' d4' ⊢
  generalize lastA ((tgI es e 5 0 (gC es e).2.1.length).map (bkI es)) h4 = h5 at d3' ⊢
  obtain ⟨S6, g6, f1, f2, f3, f4, f5⟩ := g213_k (ls := ls) w0 hw he (s := 6) (by decide) (gl213_6 999995) (gC es e).2.1.length xFuel 0 e5 h5 g5 S5 (by omega) (pFuel _ (by omega)) H5 d2' d3' (by omega) (by omega)
  unfold g213
  rw [show (0 : Int32) = bZ false from rfl, show (2 : Int32) = nI 2 from rfl, show xFuel = 999999 + 1 from rfl, s1 999999 _ 2 _ (by decide), a1, show (999999 : Nat) = 999998 + 1 from rfl, s1 999998 _ 3 _ (by decide), b1, show (999998 : Nat) = 999997 + 1 from rfl, s1 999997 _ 4 _ (by decide), c1', show (999997 : Nat) = 999996 + 1 from rfl, s1 999996 _ 5 _ (by decide), d1, show (999996 : Nat) = 999995 + 1 from rfl, s1 999995 _ 6 _ (by decide), f1, show (999995 : Nat) = 999994 + 1 from rfl, s2 999994]
  generalize layAll es w ls ((tgI es e 6 0 (gC es e).2.1.length).map (bkI es)) h5 e5 = d6 at f2 f4 ⊢
  exact ⟨S6, rfl, f2, ⟨by omega, by omega⟩, (((a5.tr b5).tr c5).tr d5).tr f5⟩
end PMPG
