section PCADD
variable {C C' : xC} {σ : St} {g : Gh} {es : List En}
theorem w_add (w : wE es) (hl : es.length < 40) {n : En} (h : wEn es es.length n) : wE (es ++ [n]) := by
  refine ⟨by simp; omega, fun e he => ?_⟩
  have he : e < es.length + 1 := by simpa using he
  rw [gE_app]
  have k : ∀ (e : Nat) (m : En), e ≤ es.length → wEn es e m → wEn (es ++ [n]) e m := by
    intro e m hle h
    obtain ⟨h1, h2, h3⟩ := h
    refine ⟨fun o ho => ⟨(h1 o ho).1, ?_⟩, fun p hp => ⟨(h2 p hp).1, ?_⟩, h3⟩
    · rw [gE_app, if_neg (by have := (h1 o ho).1; omega)]
      exact (h1 o ho).2
    · rw [gE_app, if_neg (by have := (h2 p hp).1; omega)]
      exact (h2 p hp).2
  by_cases hx : e = es.length
  · subst hx
    rw [if_pos rfl]
    exact k _ _ (Nat.le_refl _) h
  · rw [if_neg hx]
    exact k _ _ (by omega) (w.2 e (by omega))
theorem nmWh_ok {bs : List Nat} {b : Bool} (h : nmWh bs b = true) : wN bs ∧ (if b = true then isBg (tx bs 0) else isSm (tx bs 0)) = true := by
  unfold nmWh at h
  rw [Bool.and_eq_true] at h
  exact h
theorem w_ty (w : wE es) {p : Option Nat} {bs : List Nat} (hp : ∀ e, p = some e → e < es.length ∧ isTy es e = true) (hn : nmWh bs true = true) : wEn es es.length (none, p, false, bs, [], none) := by
  obtain ⟨h1, h2⟩ := nmWh_ok hn
  refine ⟨fun o ho => (by cases ho), fun q hq => ?_, fun h9 => absurd rfl h9, h1, fun _ => h2, fun h9 => absurd rfl h9, Nat.zero_le _, fun l hl => (by cases hl), fun c hc => by cases hc⟩
  obtain ⟨a, b⟩ := hp q hq
  exact ⟨a, by unfold isTy at b; exact Option.isNone_iff_eq_none.mp b⟩
theorem w_me (w : wE es) {o : Nat} {bs : List Nat} {r : Bool} (ho : o < es.length ∧ isTy es o = true) (hn : nmWh bs false = true) : wEn es es.length (some o, none, r, bs, [], none) := by
  obtain ⟨h1, h2⟩ := nmWh_ok hn
  refine ⟨fun q hq => ?_, fun q hq => (by cases hq), fun _ => rfl, h1, fun h9 => (by cases h9), fun _ => h2, Nat.zero_le _, fun l hl => (by cases hl), fun c hc => by cases hc⟩
  cases hq
  exact ⟨ho.1, by have := ho.2; unfold isTy at this; exact Option.isNone_iff_eq_none.mp this⟩
theorem cEn_ea {ea ea' : Nat → Nat} {pa : Nat → Nat → Nat} {ca : Nat → Nat} {e : Nat} {n : En} (T : cEn C ea pa ca e n) (h0 : ea' e = ea e) (h1 : ∀ o, eOw n = some o → ea' o = ea o) (h2 : ∀ o, ePa n = some o → ea' o = ea o) : cEn C ea' pa ca e n := by
  have m1 : (eOw n).map ea' = (eOw n).map ea := by
    cases ho : eOw n with
    | none => rfl
    | some o => rw [Option.map_some, Option.map_some, h1 o ho]
  have m2 : (ePa n).map ea' = (ePa n).map ea := by
    cases ho : ePa n with
    | none => rfl
    | some o => rw [Option.map_some, Option.map_some, h2 o ho]
  unfold cEn at T ⊢
  rw [h0, m1, m2]
  exact T
/-- the ghosts with a new entry -/
def gAdd (C : xC) (n : Nat) (g : Gh) : Gh := (fun e => if e = n then C.1 else g.1 e, g.2.1, g.2.2.1, g.2.2.2.1, g.2.2.2.2.1, g.2.2.2.2.2.1, fun a => if C.1 ≤ a ∧ a < C.1 + 4 then 1 + n else g.2.2.2.2.2.2 a)
theorem CR.top (R : CR C σ g) : 224 ≤ C.1 := by
  have rg := R.2.2.2.2.2.2.2.2
  refine Nat.not_lt.mp fun h9 => ?_
  have h1 := rg.2.2.2.2.1 C.1 (Nat.le_refl _)
  by_cases h2 : C.1 < 18 ∨ 168 ≤ C.1
  · rw [rg.2.2.2.2.2 C.1 (by omega)] at h1
    omega
  · have h3 := rg.2.2.2.2.1 170 (by omega)
    rw [rg.2.2.2.2.2 170 (by decide)] at h3
    omega
theorem CR.lt (R : CR C σ g) {a : Nat} (h : g.2.2.2.2.2.2 a < 9999) : a < C.1 := by
  have rg := R.2.2.2.2.2.2.2.2
  refine Nat.not_le.mp fun h9 => ?_
  rw [rg.2.2.2.2.1 a h9] at h
  omega
theorem c_add (R : CR C σ g) (w : wSt σ) (hn : σ.2.1.length < 40) (hb : σ.1.length ≤ 10) (ow pa : Option Nat) (r : Bool) (ho : ∀ e, ow = some e → e < σ.2.1.length) (hp : ∀ e, pa = some e → e < σ.2.1.length) (wn : wEn σ.2.1 σ.2.1.length (ow, pa, r, σ.1, [], none)) : ∃ C', g82 3 (ow.map g.1) (pa.map g.1) (bZ r) (some 1) C = some (nI σ.2.1.length, C') ∧ CR C' (σ.1, σ.2.1 ++ [(ow, pa, r, σ.1, [], none)], σ.2.2) (gAdd C σ.2.1.length g) ∧ wSt (σ.1, σ.2.1 ++ [(ow, pa, r, σ.1, [], none)], σ.2.2) ∧ eqO (fun a => 178 ≤ a ∧ a < 224) C C' ∧ C'.1 = C.1 + 4 ∧ C'.2.1 = C.2.1 + 25 := by
  obtain ⟨C1, e1, s1, s2, E, q1, q2, ⟨a1, a2, a3⟩, ⟨b1, b2, b3⟩, ⟨c1, c2, c3⟩, d1, d2⟩ := g82_s R w hn hb (ow.map g.1) (pa.map g.1) r 0
  have top := R.top
  have rg := R.2.2.2.2.2.2.2.2
  have H := R.2.2.1
  have w1 := w.2.1.1
  have k1 : ∀ e, e < σ.2.1.length → ∀ i, i < 4 → g.1 e + i < C.1 ∧ g.1 e + i ≠ 3 ∧ g.1 e + i ≠ 4 := fun e he i hi => by
    have hr := rg.1 e he i hi
    exact ⟨R.lt (by rw [hr]; omega), rg.ne (Or.inl (by decide)) (by rw [hr]; omega), rg.ne (Or.inl (by decide)) (by rw [hr]; omega)⟩
  have k2 : ∀ e, e < σ.2.1.length → ∀ k, k < (ePs (gE σ.2.1 e)).length → ∀ i, i < 2 → g.2.1 e k + i < C.1 ∧ g.2.1 e k + i ≠ 3 ∧ g.2.1 e k + i ≠ 4 := fun e he k hk i hi => by
    have hr := rg.2.1 e he k hk i hi
    have := (w.2.1.2 e he).2.2.2.2.2.2.1
    exact ⟨R.lt (by rw [hr]; omega), rg.ne (Or.inl (by decide)) (by rw [hr]; omega), rg.ne (Or.inl (by decide)) (by rw [hr]; omega)⟩
  have k3 : ∀ e, e < σ.2.1.length → cR C (g.1 e) 7 ≠ none → ∀ i, i < 150 → g.2.2.1 e + i < C.1 ∧ g.2.2.1 e + i ≠ 3 ∧ g.2.2.1 e + i ≠ 4 := fun e he hc i hi => by
    have hr := rg.2.2.1 e he hc i hi
    exact ⟨R.lt (by rw [hr]; omega), rg.ne (Or.inl (by decide)) (by rw [hr]; omega), rg.ne (Or.inl (by decide)) (by rw [hr]; omega)⟩
  have k4 : ∀ i, i < 150 → g.2.2.2.1 + i < C.1 ∧ g.2.2.2.1 + i ≠ 3 ∧ g.2.2.2.1 + i ≠ 4 := fun i hi => by
    have hr := rg.2.2.2.1 i hi
    exact ⟨R.lt (by rw [hr]; omega), rg.ne (Or.inl (by decide)) (by rw [hr]; omega), rg.ne (Or.inl (by decide)) (by rw [hr]; omega)⟩
  have nn : ∀ e, e < σ.2.1.length → (gAdd C σ.2.1.length g).1 e = g.1 e := fun e he => by show (if e = _ then _ else _) = _; rw [if_neg (by omega)]
  have nl : (gAdd C σ.2.1.length g).1 σ.2.1.length = C.1 := by show (if _ = _ then _ else _) = _; rw [if_pos rfl]
  have mo : ow.map (gAdd C σ.2.1.length g).1 = ow.map g.1 := by
    cases ow with
    | none => rfl
    | some e => rw [Option.map_some, Option.map_some, nn e (ho e rfl)]
  have mp : pa.map (gAdd C σ.2.1.length g).1 = pa.map g.1 := by
    cases pa with
    | none => rfl
    | some e => rw [Option.map_some, Option.map_some, nn e (hp e rfl)]
  have st : ∀ x, x < 224 → x ≠ 3 → x ≠ 4 → x < C.1 ∧ x ≠ 3 ∧ x ≠ 4 := fun x h1 h2 h3 => ⟨by omega, h2, h3⟩
  have wE' : wE (σ.2.1 ++ [(ow, pa, r, σ.1, [], none)]) := w_add w.2.1 hn wn
  refine ⟨C1, e1, ?_, ⟨w.1, wE', w.2.2.1, ⟨w.2.2.2.1.1, fun c hc => ?_⟩, w.2.2.2.2⟩, E.mono fun x hx => by omega, s1, s2⟩
  rotate_left
  · have := w.2.2.2.1.2 c hc
    show c < (σ.2.1 ++ _).length
    simp
    omega
  obtain ⟨A, B, _, D, ⟨f1, f2, f3, f4⟩, G, K, ⟨L1, bs, L2⟩, _⟩ := R
  have hpp : ∀ p, p = 168 ∨ p = 173 → ∀ i, i < 5 → p + i < C.1 ∧ p + i ≠ 3 ∧ p + i ≠ 4 := by omega
  have hps : g.2.2.2.2.1 = 168 ∨ g.2.2.2.2.1 = 173 := by omega
  have hpt : g.2.2.2.2.2.1 = 168 ∨ g.2.2.2.2.2.1 = 173 := by omega
  refine ⟨A.kp E (st 0 (by decide) (by decide) (by decide)), B.kp E (st 1 (by decide) (by decide) (by decide)) (st 2 (by decide) (by decide) (by decide)), ⟨⟨q1.1, q1.2.1, by rw [q1.2.2]; simp⟩, fun i j hi hj hij => ?_, fun e he => ?_⟩, by rw [(E 5 (st 5 (by decide) (by decide) (by decide))).1]; exact D, ⟨?_, f2.kp E (hpp _ hps), f3.kp E (hpp _ hpt), f4⟩, G.kp E ⟨st 15 (by decide) (by decide) (by decide), st 16 (by decide) (by decide) (by decide), st 17 (by decide) (by decide) (by decide)⟩, K.kp E fun x h1 h2 => st x (by omega) (by omega) (by omega), ⟨L1.kp E k4, bs, L2.kp E (k4 1 (by decide)) (k4 2 (by decide))⟩, ?_⟩
  · have hi : i < σ.2.1.length + 1 := by simpa using hi
    have hj : j < σ.2.1.length + 1 := by simpa using hj
    by_cases h1 : i = σ.2.1.length
    · by_cases h2 : j = σ.2.1.length
      · omega
      · rw [h1, nl, nn j (by omega)] at hij
        have := (k1 j (by omega) 0 (by decide)).1
        omega
    · by_cases h2 : j = σ.2.1.length
      · rw [h2, nl, nn i (by omega)] at hij
        have := (k1 i (by omega) 0 (by decide)).1
        omega
      · rw [nn i (by omega), nn j (by omega)] at hij
        exact H.2.1 i j (by omega) (by omega) hij
  · have he : e < σ.2.1.length + 1 := by simpa using he
    rw [gE_app, q2]
    by_cases h1 : e = σ.2.1.length
    · subst h1
      rw [if_pos rfl, if_pos rfl, nl]
      refine ⟨rfl, ?_⟩
      unfold cEn
      rw [nl]
      exact ⟨⟨a1, a2, a3⟩, ⟨by rw [b1]; exact mo.symm, by rw [b2]; exact mp.symm, b3⟩, ⟨c1, c2, by rw [c3]; rfl, fun k hk => absurd hk (Nat.not_lt_zero _)⟩, d1, Or.inl ⟨d2, rfl⟩, fun c hc => by cases hc⟩
    · rw [if_neg h1, if_neg h1, nn e (by omega)]
      have we := w.2.1.2 e (by omega)
      refine ⟨(H.2.2 e (by omega)).1, cEn_ea ((H.2.2 e (by omega)).2.kp we E (k1 e (by omega)) (k2 e (by omega)) (k3 e (by omega))) (nn e (by omega)) (fun o h => nn o ?_) (fun o h => nn o ?_)⟩
      · have := (we.1 o h).1
        omega
      · have := (we.2.1 o h).1
        omega
  · have := f1.kp E (hpp _ hps)
    refine ⟨this.1, this.2.1, ⟨this.2.2.1.1, fun i hi => ?_⟩, this.2.2.2⟩
    rw [nn _ (w.2.2.2.1.2 _ (by simp [List.getD_eq_getElem?_getD, hi]))]
    exact this.2.2.1.2 i hi
  · have hl : (σ.2.1 ++ [(ow, pa, r, σ.1, [], none)]).length = σ.2.1.length + 1 := by simp
    have rr : ∀ a, a < C.1 → (gAdd C σ.2.1.length g).2.2.2.2.2.2 a = g.2.2.2.2.2.2 a := fun a ha => by show (if _ then _ else _) = _; rw [if_neg (by omega)]
    refine ⟨fun e he i hi => ?_, fun e he k hk i hi => ?_, fun e he hc i hi => ?_, fun i hi => ?_, fun a ha => ?_, fun a ha => ?_⟩
    · have he : e < σ.2.1.length + 1 := by rw [← hl]; exact he
      show (gAdd C σ.2.1.length g).2.2.2.2.2.2 ((gAdd C σ.2.1.length g).1 e + i) = _
      by_cases h1 : e = σ.2.1.length
      · rw [h1, nl]
        show (if _ then _ else _) = _
        rw [if_pos ⟨by omega, by omega⟩]
      · rw [nn e (by omega), rr _ (k1 e (by omega) i hi).1]
        exact rg.1 e (by omega) i hi
    · have he : e < σ.2.1.length + 1 := by rw [← hl]; exact he
      rw [gE_app] at hk
      by_cases h1 : e = σ.2.1.length
      · rw [if_pos h1] at hk
        exact absurd hk (Nat.not_lt_zero _)
      · rw [if_neg h1] at hk
        show (gAdd C σ.2.1.length g).2.2.2.2.2.2 (g.2.1 e k + i) = _
        rw [rr _ (k2 e (by omega) k hk i hi).1]
        exact rg.2.1 e (by omega) k hk i hi
    · have he : e < σ.2.1.length + 1 := by rw [← hl]; exact he
      by_cases h1 : e = σ.2.1.length
      · rw [h1, nl, d2] at hc
        exact absurd rfl hc
      · have h2 : e < σ.2.1.length := by omega
        have h0 := k1 e h2 0 (by decide)
        rw [Nat.add_zero] at h0
        rw [nn e h2, (E _ h0).2.1] at hc
        show (gAdd C σ.2.1.length g).2.2.2.2.2.2 (g.2.2.1 e + i) = _
        rw [rr _ (k3 e h2 hc i hi).1]
        exact rg.2.2.1 e h2 hc i hi
    · show (gAdd C σ.2.1.length g).2.2.2.2.2.2 (g.2.2.2.1 + i) = _
      rw [rr _ (k4 i hi).1]
      exact rg.2.2.2.1 i hi
    · show (if _ then _ else _) = _
      rw [if_neg (by omega)]
      exact rg.2.2.2.2.1 a (by omega)
    · show (if _ then _ else _) = _
      rw [if_neg (by omega)]
      exact rg.2.2.2.2.2 a ha
/-- then the tape goes -/
theorem c_cut0 (R : CR C σ g) (w : wSt σ) : ∃ C', g101 1 0 C = some C' ∧ CR C' ([], σ.2) g ∧ Kp C C' ∧ sm C C' ∧ wSt ([], σ.2) := by
  obtain ⟨C1, e1, T1, E1, S1⟩ := g101_0 R.2.1 (by decide)
  obtain ⟨a, b⟩ := CR_tape R w (E1.mono fun x hx => hx.1) S1 T1
  exact ⟨C1, e1, a, b, S1, ⟨Nat.zero_le _, fun c hc => by cases hc⟩, w.2⟩
theorem Kp.of {C1 C2 : xC} {n m : Nat} (E : eqO (fun a => 178 ≤ a ∧ a < 224) C C1) (h1 : C1.1 = C.1 + n) (h2 : C1.2.1 = C.2.1 + m) (hn : n ≤ 200 ∧ m ≤ 2500) (K : Kp C1 C2) (S : sm C1 C2) : Kp C C2 := by
  have a := S.1
  have b := S.2
  exact ⟨E.tr K.1, by omega, by omega, by omega⟩
theorem g82_f {ea : Nat → Nat} {pa : Nat → Nat → Nat} {ca : Nat → Nat} (H : cE C ea pa ca es) (h : es.length = 40) (o p q : Option Nat) (x : Int32) : g82 3 o p x q C = some (-3, C) := by
  have h2 : ¬ cI C 3 1 < Int32.ofNat (cK C 4).2 := by
    rw [H.1.2.2, H.1.2.1, h]
    exact nI_nlt (a := 40) (b := 40) (Nat.le_refl _) (by decide)
  unfold g82
  rw [H.1.1]
  simp only [Option.bind_some]
  rw [if_neg h2]
def sTy (σ : St) (p : Option Nat) : Int32 × St := if nmWh σ.1 true = true ∧ fE σ.2.1 none σ.1 = none then if σ.2.1.length = 40 then (-3, [], σ.2) else (nI σ.2.1.length, [], σ.2.1 ++ [(none, p, false, σ.1, [], none)], σ.2.2) else (-1, [], σ.2)
theorem sTy_eq (x : Int32) : sType σ x = if x = -1 ∨ ∃ e, eIx σ.2.1 x = some e ∧ isTy σ.2.1 e = true then sTy σ (eIx σ.2.1 x) else (-1, [], σ.2) := by
  unfold sType sTy
  dsimp only
  by_cases h1 : x = -1 ∨ ∃ e, eIx σ.2.1 x = some e ∧ isTy σ.2.1 e = true
  · rw [if_pos h1]
    by_cases h2 : nmWh σ.1 true = true ∧ fE σ.2.1 none σ.1 = none
    · rw [if_pos h2, if_pos ⟨h1, h2⟩]
    · rw [if_neg h2, if_neg fun h9 => h2 h9.2]
  · rw [if_neg h1, if_neg fun h9 => h1 h9.1]
theorem c_ty1 (R : CR C σ g) (w : wSt σ) (x : Int32) {p : Option Nat} (hp : ∀ e, p = some e → e < σ.2.1.length ∧ isTy σ.2.1 e = true) : ∃ C' g', gj114_20 0 x (p.map g.1) (-1) C = some ((sTy σ p).1, C') ∧ CR C' (sTy σ p).2 g' ∧ Kp C C' ∧ wSt (sTy σ p).2 := by
  have T := R.2.1
  have H := R.2.2.1
  have wE1 := w.2.1
  have w1 := wE1.1
  obtain ⟨C0, e0, R0, K0, _, W0⟩ := c_cut0 R w
  have bad : ∀ o v, gj114_71 0 x o v C = some (v, C0) := by
    intro o v
    unfold gj114_71
    rw [R.1.1]
    simp only [Option.bind_some, e0]
  have q87 := g87_s H wE1 T (i := 0) (z := σ.1.length) (Nat.zero_le _) (Nat.le_refl _) (by decide)
  rw [nI_0] at q87
  rw [cut_all] at q87
  have g8 := g108_s T (lo := 65) (hi := 90) (by decide) (by decide)
  rw [← lt_65, ← lt_90] at g8
  have nw : (nmOK (tx σ.1) 0 σ.1.length && (decide (65 ≤ tx σ.1 0) && decide (tx σ.1 0 ≤ 90))) = nmWh σ.1 true := by
    unfold nmWh isBg
    rw [if_pos rfl]
  rw [nw] at g8
  unfold gj114_20 sTy
  rw [R.1.1]
  simp only [Option.bind_some]
  rw [g8]
  simp only [Option.bind_some, bZ_0, R.1.1, R.1.2.1, T.2.1, q87]
  rcases Bool.eq_false_or_eq_true (nmWh σ.1 true) with hnm | hnm
  rotate_left
  · rw [if_pos hnm, if_neg fun h9 => by rw [hnm] at h9; cases h9.1]
    exact ⟨C0, g, bad _ _, R0, K0, W0⟩
  · rw [if_neg (by rw [hnm]; simp)]
    cases hf : fE σ.2.1 none σ.1 with
    | some e =>
      rw [if_neg (by simp), if_neg fun h9 => by cases h9.2]
      exact ⟨C0, g, bad _ _, R0, K0, W0⟩
    | none =>
      rw [Option.map_none, if_pos rfl, if_pos ⟨hnm, rfl⟩]
      by_cases h40 : σ.2.1.length = 40
      · rw [if_pos h40]
        have e8 := g82_f H h40 none (p.map g.1) (some 1) 0
        rw [e8]
        simp only [Option.bind_some, bad]
        exact ⟨C0, g, rfl, R0, K0, W0⟩
      · rw [if_neg h40]
        have hb : σ.1.length ≤ 10 := (nmOK_NB (nmWh_ok hnm).1).2.1
        obtain ⟨C1, e1, R1, W1, E1, s1, s2⟩ := c_add R w (by omega) hb none p false (fun e he => by cases he) (fun e he => (hp e he).1) (w_ty wE1 hp hnm)
        obtain ⟨C2, e2, R2, K2, S2, W2⟩ := c_cut0 R1 W1
        rw [Option.map_none, bZ_f] at e1
        rw [e1]
        refine ⟨C2, _, ?_, R2, Kp.of E1 s1 s2 (by decide) K2 S2, W2⟩
        simp only [Option.bind_some]
        unfold gj114_71
        rw [R1.1.1]
        simp only [Option.bind_some, e2]
theorem c_type (R : CR C σ g) (w : wSt σ) (a : Nat → Int32) : ∃ C' g', g114 0 (a 1) C = some ((stp σ 2 a).1, C') ∧ CR C' (stp σ 2 a).2 g' ∧ Kp C C' ∧ wSt (stp σ 2 a).2 := by
  have H := R.2.2.1
  have wE1 := w.2.1
  have w1 := wE1.1
  obtain ⟨C0, e0, R0, K0, _, W0⟩ := c_cut0 R w
  show ∃ C' g', _ = some ((sType σ (a 1)).1, C') ∧ CR C' (sType σ (a 1)).2 g' ∧ Kp C C' ∧ wSt (sType σ (a 1)).2
  have bad : ∀ o v, gj114_71 0 (a 1) o v C = some (v, C0) := by
    intro o v
    unfold gj114_71
    rw [R.1.1]
    simp only [Option.bind_some, e0]
  rw [sTy_eq]
  unfold g114
  rw [R.1.2.1]
  simp only [Option.bind_some]
  rw [g84_s H wE1]
  simp only [Option.bind_some]
  cases he : eIx σ.2.1 (a 1) with
  | none =>
    rw [show ((none : Option Nat).filter fun e => isTy σ.2.1 e) = none from rfl, Option.map_none, if_pos rfl]
    by_cases h1 : a 1 = -1
    · obtain ⟨C2, g2, m1, m2⟩ := c_ty1 R w (a 1) (p := none) fun e h => by cases h
      rw [Option.map_none] at m1
      rw [if_pos h1, m1, if_pos (Or.inl h1)]
      exact ⟨C2, g2, rfl, m2⟩
    · rw [if_neg h1, bad, if_neg (fun h9 => h9.elim h1 fun ⟨e, h8, _⟩ => (by cases h8))]
      exact ⟨C0, g, rfl, R0, K0, W0⟩
  | some e =>
    obtain ⟨h1, h2⟩ := eIx_lt he
    have hm1 : ¬ a 1 = -1 := by rw [h2]; exact nI_nm (by omega)
    rcases Bool.eq_false_or_eq_true (isTy σ.2.1 e) with ht | ht
    · have hfil : ((some e).filter fun e => isTy σ.2.1 e) = some e := by simp [Option.filter, ht]
      obtain ⟨C2, g2, m1, m2⟩ := c_ty1 R w (a 1) (p := some e) fun x h => by cases h; exact ⟨h1, ht⟩
      rw [Option.map_some] at m1
      rw [hfil, Option.map_some, if_neg (by simp), m1, if_pos (Or.inr ⟨e, rfl, ht⟩)]
      exact ⟨C2, g2, rfl, m2⟩
    · have hfil : ((some e).filter fun e => isTy σ.2.1 e) = none := by simp [Option.filter, ht]
      rw [hfil, Option.map_none, if_pos rfl, if_neg hm1, bad, if_neg]
      · exact ⟨C0, g, rfl, R0, K0, W0⟩
      · rintro (h9 | ⟨x, h8, h7⟩)
        · exact hm1 h9
        · cases h8
          rw [ht] at h7
          cases h7
theorem c_member (R : CR C σ g) (w : wSt σ) (a : Nat → Int32) {b2 : Bool} (hb2 : b2 = decide (a 2 ≠ 0)) : ∃ C' g', g115 0 (a 1) (bZ b2) C = some ((stp σ 3 a).1, C') ∧ CR C' (stp σ 3 a).2 g' ∧ Kp C C' ∧ wSt (stp σ 3 a).2 := by
  have T := R.2.1
  have H := R.2.2.1
  have wE1 := w.2.1
  have w1 := wE1.1
  have t5 := w.1.1
  obtain ⟨C0, e0, R0, K0, _, W0⟩ := c_cut0 R w
  show ∃ C' g', _ = some ((sMem σ (a 1) (decide (a 2 ≠ 0))).1, C') ∧ CR C' (sMem σ (a 1) (decide (a 2 ≠ 0))).2 g' ∧ Kp C C' ∧ wSt (sMem σ (a 1) (decide (a 2 ≠ 0))).2
  rw [← hb2]
  have bad : ∀ o v, gj115_69 0 (a 1) (bZ b2) o v C = some (v, C0) := by
    intro o v
    unfold gj115_69
    rw [R.1.1]
    simp only [Option.bind_some, e0]
  unfold g115 sMem
  rw [R.1.2.1]
  simp only [Option.bind_some]
  rw [g84_s H wE1]
  simp only [Option.bind_some]
  cases he : eIx σ.2.1 (a 1) with
  | none =>
    rw [show ((none : Option Nat).filter fun e => isTy σ.2.1 e) = none from rfl, Option.map_none, if_pos rfl, bad]
    exact ⟨C0, g, rfl, R0, K0, W0⟩
  | some e =>
    obtain ⟨h1, h2⟩ := eIx_lt he
    dsimp only
    rcases Bool.eq_false_or_eq_true (isTy σ.2.1 e) with ht | ht
    rotate_left
    · have hfil : ((some e).filter fun e => isTy σ.2.1 e) = none := by simp [Option.filter, ht]
      rw [hfil, Option.map_none, if_pos rfl, bad, if_neg fun h9 => by rw [ht] at h9; cases h9.1]
      exact ⟨C0, g, rfl, R0, K0, W0⟩
    · have hfil : ((some e).filter fun e => isTy σ.2.1 e) = some e := by simp [Option.filter, ht]
      rw [hfil, Option.map_some, if_neg (by simp), R.1.1]
      simp only [Option.bind_some]
      have g8 := g108_s T (lo := 97) (hi := 122) (by decide) (by decide)
      rw [lt_97, lt_122, g8]
      have nw : (nmOK (tx σ.1) 0 σ.1.length && (decide (97 ≤ tx σ.1 0) && decide (tx σ.1 0 ≤ 122))) = nmWh σ.1 false := rfl
      rw [nw]
      simp only [Option.bind_some, bZ_0, R.1.1, R.1.2.1]
      have q88 := g88_s H wE1 T (o := some e) (fun t ht => by cases ht; exact h1) (i := 0) (z := σ.1.length) (Nat.zero_le _) (Nat.le_refl _) (by decide)
      rw [cut_all, Option.map_some] at q88
      rw [T.2.1, show (0 : Int32) = nI 0 from rfl, q88]
      simp only [Option.bind_some, R.1.1, R.1.2.1]
      rcases Bool.eq_false_or_eq_true (nmWh σ.1 false) with hnm | hnm
      rotate_left
      · rw [if_pos hnm, if_neg fun h9 => by rw [hnm] at h9; cases h9.2.1]
        exact ⟨C0, g, bad _ _, R0, K0, W0⟩
      · rw [if_neg (by rw [hnm]; simp)]
        cases hf : fE σ.2.1 (some e) σ.1 with
        | some x =>
          rw [if_neg (by simp), if_neg fun h9 => by cases h9.2.2]
          exact ⟨C0, g, bad _ _, R0, K0, W0⟩
        | none =>
          rw [Option.map_none, if_pos rfl, if_pos ⟨ht, hnm, rfl⟩]
          by_cases h40 : σ.2.1.length = 40
          · rw [if_pos h40]
            have e8 := g82_f H h40 (some (g.1 e)) none (some 1) (bZ b2)
            rw [e8]
            exact ⟨C0, g, bad (some (g.1 e)) _, R0, K0, W0⟩
          · rw [if_neg h40]
            have hb : σ.1.length ≤ 10 := (nmOK_NB (nmWh_ok hnm).1).2.1
            obtain ⟨C1, e1, R1, W1, E1, s1, s2⟩ := c_add R w (by omega) hb (some e) none b2 (fun x hx => by cases hx; exact h1) (fun x hx => by cases hx) (w_me wE1 ⟨h1, ht⟩ hnm)
            obtain ⟨C2, e2, R2, K2, S2, W2⟩ := c_cut0 R1 W1
            rw [show g82 3 (some (g.1 e)) none (bZ b2) (some 1) C = _ from e1]
            refine ⟨C2, _, ?_, R2, Kp.of E1 s1 s2 (by decide) K2 S2, W2⟩
            simp only [Option.bind_some]
            unfold gj115_69
            rw [R1.1.1]
            simp only [Option.bind_some, e2]
end PCADD
