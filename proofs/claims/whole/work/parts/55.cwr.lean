section PCWR
def sm (C C' : xC) : Prop := C'.1 = C.1 ∧ C'.2.1 = C.2.1
theorem sm.rfl' {C : xC} : sm C C := ⟨rfl, rfl⟩
theorem sm.tr {C C1 C2 : xC} (a : sm C C1) (b : sm C1 C2) : sm C C2 := ⟨b.1.trans a.1, b.2.trans a.2⟩
variable {C C' : xC} {t b room : Nat} {bs : List Nat}
theorem uI_I {a k c j : Nat} {v : Int32} : cI (uI C a k v) c j = if c = a ∧ j = k then v else cI C c j := rfl
theorem uI_R {a k c j : Nat} {v : Int32} : cR (uI C a k v) c j = cR C c j := rfl
theorem uI_K {a k c : Nat} {v : Int32} : cK (uI C a k v) c = cK C c := rfl
theorem uR_I {a k c j : Nat} {v : Option Nat} : cI (uR C a k v) c j = cI C c j := rfl
theorem uR_R {a k c j : Nat} {v : Option Nat} : cR (uR C a k v) c j = if c = a ∧ j = k then v else cR C c j := rfl
theorem uR_K {a k c : Nat} {v : Option Nat} : cK (uR C a k v) c = cK C c := rfl
theorem bOf_nI {c : Nat} (h : c < 256) : bOf (nI c) = c := by
  unfold bOf
  rw [pk_tn (by omega)]
  omega
theorem tx_app {c i : Nat} (hi : i < bs.length + 1) : tx (bs ++ [c]) i = if i = bs.length then c else tx bs i := by
  by_cases h : i = bs.length
  · subst h
    simp [tx, List.getD_eq_getElem?_getD]
  · rw [if_neg h]
    simp [tx, List.getD_eq_getElem?_getD, List.getElem?_append_left (show i < bs.length by omega)]
theorem g97_s (T : TX C t b room bs) (hl : bs.length < room) (hne : t ≠ b) (x : Int32) : ∃ C', g97 t x C = some (1, C') ∧ TX C' t b room (bs ++ [bOf x]) ∧ eqO (fun a => a ≠ t ∧ a ≠ b) C C' ∧ sm C C' := by
  obtain ⟨t1, t2, t3, t4, t5, t6⟩ := T
  refine ⟨uI (uI C b bs.length (sb_b (bOf x))) t 1 (nI (bs.length + 1)), ?_, ⟨t1, ?_, t3, t4, ?_, fun i hi => ?_⟩, (eqO.uI (by simp)).tr (eqO.uI (by simp)), rfl, rfl⟩
  · unfold g97
    rw [t1]
    simp only [Option.bind_some, t2]
    rw [t3, show Int32.ofNat room = nI room from rfl, if_pos (nI_lt hl (by omega)), bOf_st, cSt_n hl t3 (by omega)]
    simp only [Option.bind_some, uI_I]
    rw [if_neg fun h9 => hne h9.1, t2, nI_1]
  · simp [uI_I]
  · simp
    omega
  · have hi : i < bs.length + 1 := by simpa using hi
    show tx (bs ++ [bOf x]) i < 256 ∧ _ = sb_b (tx (bs ++ [bOf x]) i)
    rw [tx_app hi, uI_I, if_neg (fun h9 : b = t ∧ i = 1 => hne h9.1.symm), uI_I]
    by_cases h : i = bs.length
    · rw [if_pos h, if_pos ⟨rfl, h⟩]
      exact ⟨bOf_lt x, rfl⟩
    · rw [if_neg h, if_neg (fun h9 : b = b ∧ i = bs.length => h h9.2)]
      exact t6 i (by omega)
theorem g97_f (T : TX C t b room bs) (hl : ¬ bs.length < room) (x : Int32) : g97 t x C = some (0, C) := by
  obtain ⟨t1, t2, t3, t4, t5, t6⟩ := T
  unfold g97
  rw [t1]
  simp only [Option.bind_some, t2]
  rw [t3, show Int32.ofNat room = nI room from rfl, if_neg (nI_nlt (by omega) (by omega))]
theorem g101_s (T : TX C t b room bs) (hne : t ≠ b) {n : Nat} (hn : n ≤ bs.length) : ∃ C', g101 t (nI n) C = some C' ∧ TX C' t b room (bs.take n) ∧ eqO (fun a => a ≠ t) C C' ∧ sm C C' := by
  obtain ⟨t1, t2, t3, t4, t5, t6⟩ := T
  have hlen : (bs.take n).length = n := by simp [hn]
  unfold g101
  rw [if_neg (nI_pos (by omega)), t2]
  simp (disch := omega) only [nI_leI, Option.bind_some, gj101_17]
  by_cases h : bs.length ≤ n
  · have h2 : n = bs.length := by omega
    rw [if_pos h, h2, List.take_length]
    exact ⟨C, rfl, ⟨t1, t2, t3, t4, t5, t6⟩, eqO.rfl', sm.rfl'⟩
  · rw [if_neg h]
    refine ⟨_, rfl, ⟨t1, ?_, t3, t4, by omega, fun i hi => ?_⟩, eqO.uI (by simp), rfl, rfl⟩
    · rw [hlen]
      simp [uI_I]
    · rw [hlen] at hi
      show tx (bs.take n) i < 256 ∧ _ = sb_b (tx (bs.take n) i)
      rw [tx_take hi, uI_I, if_neg fun h9 => hne h9.1.symm]
      exact t6 i (by omega)
theorem g101_0 (T : TX C t b room bs) (hne : t ≠ b) : ∃ C', g101 t 0 C = some C' ∧ TX C' t b room [] ∧ eqO (fun a => a ≠ t) C C' ∧ sm C C' := by
  have := g101_s T hne (Nat.zero_le _)
  rw [List.take_zero] at this
  exact this
theorem cut_s {l : List Nat} {i j : Nat} (hij : i ≤ j) (hj : j < l.length) : cut l i (j + 1) = cut l i j ++ [tx l j] := by
  unfold cut
  rw [show j + 1 - i = (j - i) + 1 by omega, List.take_add_one]
  congr 1
  rw [List.getElem?_drop, show i + (j - i) = j by omega]
  simp [tx, List.getD_eq_getElem?_getD, hj]
theorem cut_e {l : List Nat} {i : Nat} : cut l i i = [] := by simp [cut]
/-- a part of another text is added -/
theorem g100_s {t2 b2 r2 : Nat} {l : List Nat} (T : TX C t b room bs) (U : TX C t2 b2 r2 l) (hne : t ≠ b) (h1 : t2 ≠ t ∧ t2 ≠ b ∧ b2 ≠ t ∧ b2 ≠ b) {i e : Nat} (hi : i ≤ e) (he : e ≤ l.length) (hr : bs.length + (e - i) ≤ room) (h6 : r2 < 1000000) : ∃ C', g100 t (some t2) (nI i) (nI e) C = some C' ∧ TX C' t b room (bs ++ cut l i e) ∧ eqO (fun a => a ≠ t ∧ a ≠ b) C C' ∧ sm C C' := by
  have u5 := U.2.2.2.2.1
  unfold g100
  refine l_in (σ := xC) (fun n j s => gl100_3 n t (some t2) (nI i) (nI e) (nI j) s) (fun C' => TX C' t b room (bs ++ cut l i e) ∧ eqO (fun a => a ≠ t ∧ a ≠ b) C C' ∧ sm C C') (fun j s => i ≤ j ∧ TX s t b room (bs ++ cut l i j) ∧ eqO (fun a => a ≠ t ∧ a ≠ b) C s ∧ sm C s) e (fun n s hs => ?_) (fun n j s hj hs => ?_) (e - i) xFuel i C (by omega) (pFuel _ (by omega)) ⟨Nat.le_refl _, by rw [cut_e, List.append_nil]; exact T, eqO.rfl', sm.rfl'⟩
  · refine ⟨s, ?_, hs.2⟩
    simp only [gl100_3]
    rw [if_pos (nI_le (Nat.le_refl _) (by omega))]
  · obtain ⟨h0, T1, E1, S1⟩ := hs
    have U1 : TX s t2 b2 r2 l := U.kp E1 ⟨h1.1, h1.2.1⟩ ⟨h1.2.2.1, h1.2.2.2⟩
    have c1 := (U.2.2.2.2.2 j (by omega)).1
    have c1 : tx l j < 256 := c1
    have hlen : (cut l i j).length = j - i := cut_len (by omega)
    obtain ⟨C2, e2, T2, E2, S2⟩ := g97_s T1 (by rw [List.length_append, hlen]; omega) hne (nI (tx l j))
    refine Or.inr ⟨C2, ?_, by omega, ?_, E1.tr E2, S1.tr S2⟩
    · simp (disch := omega) only [gl100_3, nI_leI, Option.bind_some, U1.s, bI_lt c1, e2, nI_1]
      rw [if_neg (by omega)]
    · rw [bOf_nI c1, List.append_assoc] at T2
      rw [cut_s h0 (by omega)]
      exact T2
theorem g102_s {t2 b2 r2 : Nat} {l : List Nat} (T : TX C t b room bs) (U : TX C t2 b2 r2 l) (hne : t ≠ b) (h1 : t2 ≠ t ∧ t2 ≠ b ∧ b2 ≠ t ∧ b2 ≠ b) (hr : l.length ≤ room) (h6 : r2 < 1000000) : ∃ C', g102 t (some t2) C = some C' ∧ TX C' t b room l ∧ eqO (fun a => a ≠ t ∧ a ≠ b) C C' ∧ sm C C' := by
  obtain ⟨t1, t2', t3, t4, t5, t6⟩ := T
  have T0 : TX (uI C t 1 0) t b room [] := ⟨t1, by simp [uI_I, nI_0], t3, t4, Nat.zero_le _, fun i hi => absurd hi (Nat.not_lt_zero _)⟩
  have E0 : eqO (fun a => a ≠ t ∧ a ≠ b) C (uI C t 1 0) := eqO.uI (by simp)
  have U0 := U.kp E0 ⟨h1.1, h1.2.1⟩ ⟨h1.2.2.1, h1.2.2.2⟩
  obtain ⟨C2, e2, T2, E2, S2⟩ := g100_s T0 U0 hne h1 (Nat.zero_le _) (Nat.le_refl _) (by simp; omega) h6
  refine ⟨C2, ?_, ?_, E0.tr E2, sm.tr (C1 := uI C t 1 0) ⟨rfl, rfl⟩ S2⟩
  · unfold g102
    simp only [Option.bind_some]
    rw [U0.2.1, show (0 : Int32) = nI 0 from rfl]
    rw [show uI C t 1 (nI 0) = uI C t 1 0 from rfl, e2]
    rfl
  · rw [cut_all, List.nil_append] at T2
    exact T2
theorem g98_s (T : TX C t b room bs) (hne : t ≠ b) (hl : bs.length + 4 ≤ room) (x : Int32) : ∃ C', g98 t x C = some C' ∧ TX C' t b room (bs ++ b4 x) ∧ eqO (fun a => a ≠ t ∧ a ≠ b) C C' ∧ sm C C' := by
  have st : ∀ {C : xC} {bs : List Nat} (T : TX C t b room bs) (hl : bs.length < room) (x2 : Int32) (hx : ¬ x2 < 0) (n : Nat), ∃ C', gl98_3 (n + 1) t x x2 C = gl98_3 n t x (x2 + (-8)) C' ∧ TX C' t b room (bs ++ [bOf (xush x x2)]) ∧ eqO (fun a => a ≠ t ∧ a ≠ b) C C' ∧ sm C C' := by
    intro C bs T hl x2 hx n
    obtain ⟨C2, e2, r⟩ := g97_s T hl hne (xush x x2)
    refine ⟨C2, ?_, r⟩
    rw [gl98_3]
    simp only [if_neg hx, e2, Option.bind_some]
  unfold g98
  rw [show xFuel = 999995 + 1 + 1 + 1 + 1 + 1 from rfl]
  obtain ⟨C1, e1, T1, E1, S1⟩ := st T (by omega) 24 (by decide) (999995 + 1 + 1 + 1 + 1)
  obtain ⟨C2, e2, T2, E2, S2⟩ := st T1 (by simp; omega) 16 (by decide) (999995 + 1 + 1 + 1)
  obtain ⟨C3, e3, T3, E3, S3⟩ := st T2 (by simp; omega) 8 (by decide) (999995 + 1 + 1)
  obtain ⟨C4, e4, T4, E4, S4⟩ := st T3 (by simp; omega) 0 (by decide) (999995 + 1)
  refine ⟨C4, ?_, by simpa [b4] using T4, ((E1.tr E2).tr E3).tr E4, ((S1.tr S2).tr S3).tr S4⟩
  rw [e1, show (24 : Int32) + (-8) = 16 by decide, e2, show (16 : Int32) + (-8) = 8 by decide, e3, show (8 : Int32) + (-8) = 0 by decide, e4, gl98_3]
  exact if_pos (show (0 : Int32) + (-8) < 0 by decide)
variable {σ : St} {g : Gh}
/-- what is not touched by static cells -/
theorem cRg.ne {es : List En} (r : cRg C es g) {a x : Nat} (hx : x < 18 ∨ (168 ≤ x ∧ x < 224)) (ha : g.2.2.2.2.2.2 a < 1000) : a ≠ x := by
  rintro rfl
  rw [r.2.2.2.2.2 a hx] at ha
  omega
/-- some static cells alone have changed -/
theorem CR_static {X : List Nat} (R : CR C σ g) (w : wSt σ) (E : eqO (fun a => a ∉ X) C C') (hX : ∀ x ∈ X, x < 18 ∨ (168 ≤ x ∧ x < 224)) (h34 : 3 ∉ X ∧ 4 ∉ X) : cE C' g.1 g.2.1 g.2.2.1 σ.2.1 ∧ cSh C' g.2.2.2.1 ∧ (∃ bs, TX C' (g.2.2.2.1 + 1) (g.2.2.2.1 + 2) 600 bs) ∧ (C'.1 = C.1 → cRg C' σ.2.1 g) := by
  obtain ⟨_, _, H, _, _, _, _, ⟨h1, bs, h2⟩, r⟩ := R
  have w1 := w.2.1.1
  have wp : ∀ e, e < σ.2.1.length → (ePs (gE σ.2.1 e)).length ≤ 4 := fun e he => (w.2.1.2 e he).2.2.2.2.2.2.1
  have n : ∀ a, g.2.2.2.2.2.2 a < 1000 → a ∉ X := fun a ha h9 => r.ne (hX a h9) ha rfl
  have k1 : ∀ e, e < σ.2.1.length → ∀ i, i < 4 → g.1 e + i ∉ X := fun e he i hi => n _ (by rw [r.1 e he i hi]; omega)
  refine ⟨H.kp w.2.1 E h34 k1 (fun e he k hk i hi => n _ ?_) (fun e he hc i hi => n _ ?_), h1.kp E fun i hi => n _ ?_, ⟨bs, h2.kp E (n _ ?_) (n _ ?_)⟩, fun hs => ⟨r.1, r.2.1, fun e he hc => r.2.2.1 e he ?_, r.2.2.2.1, fun a ha => r.2.2.2.2.1 a (by omega), r.2.2.2.2.2⟩⟩
  · rw [r.2.1 e he k hk i hi]
    have := wp e he
    omega
  · rw [r.2.2.1 e he hc i hi]
    omega
  · rw [r.2.2.2.1 i hi]
    omega
  · rw [r.2.2.2.1 1 (by omega)]
    omega
  · rw [r.2.2.2.1 2 (by omega)]
    omega
  · have k0 := k1 e he 0 (by omega)
    rw [Nat.add_zero] at k0
    rw [(E _ k0).2.1] at hc
    exact hc
/-- the tape alone changes -/
theorem CR_tape (R : CR C σ g) (w : wSt σ) (E : eqO (fun a => a ≠ 1 ∧ a ≠ 2) C C') (S : sm C C') {bs : List Nat} (T : TX C' 1 2 600 bs) : CR C' (bs, σ.2) g ∧ Kp C C' := by
  have E2 : eqO (fun a => a ∉ [1, 2]) C C' := E.mono fun a ha => by simpa using ha
  obtain ⟨k1, k2, k3, k4⟩ := CR_static R w E2 (by decide) (by decide)
  obtain ⟨a, _, _, d, ⟨e1, e2, e3, e4⟩, f, h, _, _⟩ := R
  have hp : ∀ p, p = 168 ∨ p = 173 → ∀ i, i < 5 → p + i ≠ 1 ∧ p + i ≠ 2 := by omega
  have hps : g.2.2.2.2.1 = 168 ∨ g.2.2.2.2.1 = 173 := by omega
  have hpt : g.2.2.2.2.2.1 = 168 ∨ g.2.2.2.2.2.1 = 173 := by omega
  refine ⟨⟨a.kp E (by decide), T, k1, by rw [(E 5 (by decide)).1]; exact d, ⟨e1.kp E (hp _ hps), e2.kp E (hp _ hps), e3.kp E (hp _ hpt), e4⟩, f.kp E (by decide), h.kp E fun x _ _ => by omega, ⟨k2, k3⟩, k4 S.1⟩, E.mono fun x hx => by omega, by rw [S.1]; exact Nat.le_refl _, by rw [S.1]; omega, by rw [S.2]; omega⟩
theorem c_feed (R : CR C σ g) (w : wSt σ) (a : Nat → Int32) : ∃ C', g112 0 (a 1) (a 2) (a 3) (a 4) (a 5) C = some ((stp σ 0 a).1, C') ∧ CR C' (stp σ 0 a).2 g ∧ Kp C C' := by
  have t2 := w.1.1
  have T := R.2.1
  have c0 := R.1.1
  unfold g112 stp
  rw [c0]
  simp only [Option.bind_some]
  rw [T.2.1, show (20 : Int32) = nI 20 from rfl, nI_add, lt_600]
  simp (disch := omega) only [nI_leI]
  by_cases hl : 600 < σ.1.length + 20
  · rw [if_neg (by omega), if_pos hl]
    exact ⟨C, rfl, R, Kp.rfl'⟩
  · rw [if_pos (by omega), if_neg hl]
    obtain ⟨C1, e1, T1, E1, S1⟩ := g98_s T (by decide) (by omega) (a 1)
    obtain ⟨C2, e2, T2, E2, S2⟩ := g98_s T1 (by decide) (by simp [b4_len]; omega) (a 2)
    obtain ⟨C3, e3, T3, E3, S3⟩ := g98_s T2 (by decide) (by simp [b4_len]; omega) (a 3)
    obtain ⟨C4, e4, T4, E4, S4⟩ := g98_s T3 (by decide) (by simp [b4_len]; omega) (a 4)
    obtain ⟨C5, e5, T5, E5, S5⟩ := g98_s T4 (by decide) (by simp [b4_len]; omega) (a 5)
    have z : ∀ {C1 : xC}, eqO (fun a => a ≠ 1 ∧ a ≠ 2) C C1 → cR C1 0 0 = some 1 := fun E => by rw [(E 0 (by decide)).2.1]; exact c0
    have F2 := E1.tr E2
    have F3 := F2.tr E3
    have F4 := F3.tr E4
    have F5 := F4.tr E5
    refine ⟨C5, ?_, CR_tape R w F5 ((((S1.tr S2).tr S3).tr S4).tr S5) T5⟩
    simp only [e1, Option.bind_some, z E1, e2, z F2, e3, z F3, e4, z F4, e5, z F5, T5.2.1]
    simp [b4_len]
theorem c_end (R : CR C σ g) (w : wSt σ) (a : Nat → Int32) : ∃ C', g113 0 (a 1) C = some ((stp σ 1 a).1, C') ∧ CR C' (stp σ 1 a).2 g ∧ Kp C C' := by
  have t2 := w.1.1
  have T := R.2.1
  unfold g113 stp
  rw [R.1.1]
  simp only [Option.bind_some]
  rw [T.2.1]
  by_cases h1 : a 1 < 0
  · rw [if_pos h1, if_pos (Or.inl h1)]
    exact ⟨C, rfl, R, Kp.rfl'⟩
  · obtain ⟨j, hj, e⟩ := nI_of h1
    rw [if_neg h1]
    by_cases h2 : nI σ.1.length < a 1
    · rw [if_neg (Int32.not_le.mpr h2), if_pos (Or.inr h2)]
      exact ⟨C, rfl, R, Kp.rfl'⟩
    · have hj2 : j ≤ σ.1.length := Nat.not_lt.mp fun h9 => h2 (by rw [e]; exact nI_lt h9 hj)
      rw [if_pos (Int32.not_lt.mp h2), if_neg fun h9 => h9.elim h1 h2, e, nI_clamp hj]
      obtain ⟨C1, e1, T1, E1, S1⟩ := g101_s T (by decide) hj2
      rw [e1]
      exact ⟨C1, rfl, CR_tape R w (E1.mono fun x hx => hx.1) S1 T1⟩
theorem c_leads (R : CR C σ g) (w : wSt σ) (a : Nat → Int32) : ∃ C', g124 0 (a 1) C = some ((stp σ 11 a).1, C') ∧ CR C' (stp σ 11 a).2 g ∧ Kp C C' := by
  have t2 := w.1.1
  have T := R.2.1
  have H := R.2.2.1
  have wE1 := w.2.1
  obtain ⟨C1, e1, T1, E1, S1⟩ := g101_0 T (by decide)
  show ∃ C', _ = some ((sLds σ (a 1)).1, C') ∧ CR C' ([], σ.2) g ∧ Kp C C'
  refine ⟨C1, ?_, CR_tape R w (E1.mono fun x hx => hx.1) S1 T1⟩
  have fin : ∀ o v, gj124_66 0 (a 1) o v C = some (v, C1) := by
    intro o v
    unfold gj124_66
    rw [R.1.1]
    simp only [Option.bind_some, e1]
  unfold g124 sLds
  rw [R.1.2.1]
  simp only [Option.bind_some]
  rw [g83_s H wE1]
  simp only [Option.bind_some]
  cases he : eIx σ.2.1 (a 1) with
  | none => exact fin none (-9)
  | some e =>
    obtain ⟨h1, _⟩ := eIx_lt he
    rw [Option.map_some, if_neg (by simp)]
    unfold gj124_19
    rw [if_neg (by simp), R.1.1]
    simp only [Option.bind_some]
    rw [T.2.1, show (0 : Int32) = nI 0 from rfl, g109_s T (Nat.zero_le _) (by omega), Nat.sub_zero]
    simp only [Option.bind_some, show (nI 0 : Int32) = 0 from rfl, bZ_0, R.1.1, R.1.2.1]
    cases hr : rfOK (tx σ.1) 0 σ.1.length with
    | false =>
      rw [if_pos rfl, fin]
      simp [hr]
    | true =>
      have q6 := g93_s H wE1 T (i := 0) (Nat.le_refl _) (by decide) (by rw [Nat.sub_zero]; exact hr) (Nat.zero_le _) h1
      rw [cut_all] at q6
      have q7 := g134_s H (o := lead σ.2.1 e σ.1) fun o ho => by
        unfold lead at ho
        dsimp only at ho
        split at ho
        · exact (mF_lt wE1 _ _ _ _ ho).1
        · split at ho
          · exact (fE_lt ho).1
          · exact (mF_lt wE1 _ _ _ _ ho).1
      rw [if_neg (by simp), T.2.1, show (0 : Int32) = nI 0 from rfl, q6]
      simp only [Option.bind_some, q7, fin]
      simp [hr]
end PCWR
