section PCCO
variable {C C' : xC} {σ : St} {g : Gh}
theorem cEn_ca {ea : Nat → Nat} {pa : Nat → Nat → Nat} {ca ca' : Nat → Nat} {e : Nat} {n : En} (T : cEn C ea pa ca e n) (h : ca' e = ca e) : cEn C ea pa ca' e n := by
  unfold cEn at T ⊢
  rw [h]
  exact T
/-- all but the entries and the draft, behind a reading -/
theorem CR_read (R : CR C σ g) (E : eqO (cmP g.2.2.2.1) C C') (N : nS C') : cTop C' g.2.2.2.1 g.2.2.2.2.1 g.2.2.2.2.2.1 ∧ (cPg C' g.2.2.2.2.1 g.1 σ.2.2.2.1 ∧ cPgS C' g.2.2.2.2.1 ∧ cPgS C' g.2.2.2.2.2.1) ∧ cNt C' σ.2.2.2.2 ∧ cAux C' ∧ eqO (fun a => 178 ≤ a ∧ a < 224) C C' := by
  have st : ∀ x, (x < 18 ∨ (168 ≤ x ∧ x < 224)) → (x ≠ 1 ∧ x ≠ 5 ∧ x ≠ 6 ∧ x ≠ 7) → cmP g.2.2.2.1 x := fun x h1 h2 => R.cs h1 h2
  obtain ⟨a, b, _, d, ⟨e1, e2, e3, e4⟩, f, ⟨_, h1, h2, ⟨h3, l, h4⟩, h5, h6, h7, h8, h9, h10⟩, _, _⟩ := R
  have hp : ∀ p, p = 168 ∨ p = 173 → ∀ i, i < 5 → cmP g.2.2.2.1 (p + i) := fun p hp i hi => st _ (by omega) (by omega)
  have hps : g.2.2.2.2.1 = 168 ∨ g.2.2.2.2.1 = 173 := by omega
  have hpt : g.2.2.2.2.2.1 = 168 ∨ g.2.2.2.2.2.1 = 173 := by omega
  have e8 := E 8 (st 8 (by decide) (by decide))
  refine ⟨a.kp E (st 0 (by decide) (by decide)), ⟨e1.kp E (hp _ hps), e2.kp E (hp _ hps), e3.kp E (hp _ hpt)⟩, f.kp E ⟨st 15 (by decide) (by decide), st 16 (by decide) (by decide), st 17 (by decide) (by decide)⟩, ⟨N, ?_, ?_, ⟨?_, l, h4.kp E (st 10 (by decide) (by decide)) (st 11 (by decide) (by decide))⟩, ?_, ?_, ?_, ?_, ?_, ?_⟩, E.mono fun x hx => st x (by omega) (by omega)⟩
  · rw [e8.2.1]; exact h1
  · rw [(E 9 (st 9 (by decide) (by decide))).2.2]; exact h2
  · rw [e8.2.1]; exact h3
  · rw [e8.2.1]; exact h5
  · rw [(E 12 (st 12 (by decide) (by decide))).2.2]; exact h6
  · rw [e8.2.1]; exact h7
  · rw [(E 13 (st 13 (by decide) (by decide))).2.2]; exact h8
  · rw [e8.2.1]; exact h9
  · rw [(E 14 (st 14 (by decide) (by decide))).2.2]; exact h10
/-- the ghosts with a new comment -/
def gCom (e nd : Nat) (g : Gh) : Gh := (g.1, g.2.1, fun x => if x = e then g.2.2.2.1 else g.2.2.1 x, nd, g.2.2.2.2.1, g.2.2.2.2.2.1, fun a => if g.2.2.2.1 ≤ a ∧ a < g.2.2.2.1 + 150 then 300 + e else if nd ≤ a ∧ a < nd + 150 then 350 else g.2.2.2.2.2.2 a)
/-- the draft becomes the entry's comment -/
theorem c_com2 (R : CR C σ g) (w : wSt σ) {e : Nat} (he : e < σ.2.1.length) {C3 X : xC} (E : eqO (cmP g.2.2.2.1) C C3) (S3 : sm C C3) (N : nS C3) (T1 : TX C3 1 2 600 []) (Sh : cSh C3 g.2.2.2.1) (T2 : TX C3 (g.2.2.2.1 + 1) (g.2.2.2.1 + 2) 600 σ.1) (h5 : cR C3 g.2.2.2.1 5 = some (g.1 e)) {r : Rd} (hF : fS C3 none) (T3 : cRd C3 g.2.2.2.1 r) (h25 : r.1.length ≤ 25) (h120 : r.2.length ≤ 120) {nd : Nat} (EX : eqO (fun a => a < C.1) C3 X) (Sn : cSh X nd) (hX1 : C.1 ≤ X.1 ∧ X.1 ≤ C.1 + 150) (hX2 : X.2.1 ≤ C.2.1 + 2400) (hn : (∀ i, i < 150 → g.2.2.2.2.2.2 (nd + i) = 300 + e) ∨ (nd = C.1 ∧ X.1 = C.1 + 150)) : CR (uI (uR (uR X 0 5 (some nd)) (g.1 e) 7 (some g.2.2.2.1)) (g.1 e) 8 1) ([], setC σ.2.1 e (some (σ.1, r)), 0, σ.2.2.2) (gCom e nd g) ∧ Kp C (uI (uR (uR X 0 5 (some nd)) (g.1 e) 7 (some g.2.2.2.1)) (g.1 e) 8 1) ∧ cI (uI (uR (uR X 0 5 (some nd)) (g.1 e) 7 (some g.2.2.2.1)) (g.1 e) 8 1) g.2.2.2.1 3 = nI r.1.length := by
  obtain ⟨d1, d2⟩ := R.d17
  have c3 := R.c3 w
  have w1 := w.2.1.1
  have wE1 := w.2.1
  have top := R.top
  have rg := R.2.2.2.2.2.2.2.2
  have H := R.2.2.1
  have RR := CR_read R E N
  have pc := R.2.2.2.2.1.2.2.2
  obtain ⟨n1, n2, n3, n4, n5, n6⟩ := CR.ne R w he (i := 0) (by decide)
  rw [Nat.add_zero] at n1 n2 n3 n4 n5 n6
  have od := @CR.od _ _ _ R
  have lt := @CR.lt _ _ _ R
  -- the frame behind the reading
  have E4 : eqO (fun a => a < C.1 ∧ a ≠ 0 ∧ a ≠ g.1 e) C3 (uI (uR (uR X 0 5 (some nd)) (g.1 e) 7 (some g.2.2.2.1)) (g.1 e) 8 1) := (((EX.mono fun a ha => ha.1).tr (eqO.uR (fun h9 => h9.2.1 rfl))).tr (eqO.uR (fun h9 => h9.2.2 rfl))).tr (eqO.uI (fun h9 => h9.2.2 rfl))
  have E5 : eqO (fun a => cmP g.2.2.2.1 a ∧ a < C.1 ∧ a ≠ 0 ∧ a ≠ g.1 e) C (uI (uR (uR X 0 5 (some nd)) (g.1 e) 7 (some g.2.2.2.1)) (g.1 e) 8 1) := (E.mono fun a ha => ha.1).tr (E4.mono fun a ha => ha.2)
  have z0 : 0 ≠ g.1 e := n1 0 (by decide)
  have k0 : ∀ k, k ≠ 5 → cR (uI (uR (uR X 0 5 (some nd)) (g.1 e) 7 (some g.2.2.2.1)) (g.1 e) 8 1) 0 k = cR C3 0 k := fun k hk => by rw [uI_r, uR_n (by omega), uR_n (by omega), (EX 0 (by omega)).2.1]
  have k5 : cR (uI (uR (uR X 0 5 (some nd)) (g.1 e) 7 (some g.2.2.2.1)) (g.1 e) 8 1) 0 5 = some nd := by rw [uI_r, uR_n (by omega), uR_e]
  have q7 : cR (uI (uR (uR X 0 5 (some nd)) (g.1 e) 7 (some g.2.2.2.1)) (g.1 e) 8 1) (g.1 e) 7 = some g.2.2.2.1 := by rw [uI_r, uR_e]
  have q8 : cI (uI (uR (uR X 0 5 (some nd)) (g.1 e) 7 (some g.2.2.2.1)) (g.1 e) 8 1) (g.1 e) 8 = 1 := uI_e
  have e0 := c3.1 e he 0 (by decide)
  rw [Nat.add_zero] at e0
  have qR : ∀ k, k ≠ 7 → cR (uI (uR (uR X 0 5 (some nd)) (g.1 e) 7 (some g.2.2.2.1)) (g.1 e) 8 1) (g.1 e) k = cR C (g.1 e) k := fun k hk => by rw [uI_r, uR_n (by omega), uR_n (by omega), (EX _ n6).2.1, (E _ e0).2.1]
  have qI : ∀ k, k ≠ 8 → cI (uI (uR (uR X 0 5 (some nd)) (g.1 e) 7 (some g.2.2.2.1)) (g.1 e) 8 1) (g.1 e) k = cI C (g.1 e) k := fun k hk => by rw [uI_n (by omega), uR_i, uR_i, (EX _ n6).1, (E _ e0).1]
  have sn : ∀ i, i < 150 → nd + i ≠ 0 ∧ nd + i ≠ g.1 e := fun i hi => by
    rcases hn with hn | hn
    · have := hn i hi
      refine ⟨rg.ne (Or.inl (by decide)) (by rw [this]; omega), fun h9 => ?_⟩
      have h8 := rg.1 e he 0 (by decide)
      rw [Nat.add_zero, ← h9, this] at h8
      omega
    · omega
  have EN : eqO (fun a => a ≠ 0 ∧ a ≠ g.1 e) X (uI (uR (uR X 0 5 (some nd)) (g.1 e) 7 (some g.2.2.2.1)) (g.1 e) 8 1) := ((eqO.uR (fun h9 => h9.1 rfl)).tr (eqO.uR (fun h9 => h9.2 rfl))).tr (eqO.uI (fun h9 => h9.2 rfl))
  have ShN := Sn.kp EN sn
  have s1 : (uI (uR (uR X 0 5 (some nd)) (g.1 e) 7 (some g.2.2.2.1)) (g.1 e) 8 1).1 = X.1 := rfl
  have s2 : (uI (uR (uR X 0 5 (some nd)) (g.1 e) 7 (some g.2.2.2.1)) (g.1 e) 8 1).2.1 = X.2.1 := rfl
  generalize uI (uR (uR X 0 5 (some nd)) (g.1 e) 7 (some g.2.2.2.1)) (g.1 e) 8 1 = Y at E4 E5 k0 k5 q7 q8 qR qI ShN s1 s2 ⊢
  -- the draft's cells
  have dd : ∀ i, i < 150 → g.2.2.2.1 + i < C.1 ∧ g.2.2.2.1 + i ≠ 0 ∧ g.2.2.2.1 + i ≠ g.1 e := fun i hi => ⟨by omega, by omega, n5 i hi⟩
  have ShD := Sh.kp E4 dd
  have TD := T2.kp E4 (dd 1 (by decide)) (dd 2 (by decide))
  have d0 := dd 0 (by decide)
  rw [Nat.add_zero] at d0
  have RD := T3.kp E4 h25 h120 dd
  have st : ∀ x, (x < 18 ∨ (168 ≤ x ∧ x < 224)) → x ≠ 0 → x < C.1 ∧ x ≠ 0 ∧ x ≠ g.1 e := fun x h1 h2 => ⟨by omega, h2, n1 x h1⟩
  have fr : ∀ a, cmP g.2.2.2.1 a → g.2.2.2.2.2.2 a < 1000 → a ≠ g.1 e → cmP g.2.2.2.1 a ∧ a < C.1 ∧ a ≠ 0 ∧ a ≠ g.1 e := fun a h1 h2 h3 => ⟨h1, lt (by omega), rg.ne (Or.inl (by decide)) h2, h3⟩
  have f2 : ∀ f, f < σ.2.1.length → ∀ k, k < (ePs (gE σ.2.1 f)).length → ∀ i, i < 2 → g.2.2.2.2.2.2 (g.2.1 f k + i) < 300 := fun f hf k hk i hi => by
    have := (wE1.2 f hf).2.2.2.2.2.2.1
    rw [rg.2.1 f hf k hk i hi]
    omega
  obtain ⟨t1, ⟨u1, u2, u3⟩, v1, v2, v3⟩ := RR
  have hp : ∀ p, p = 168 ∨ p = 173 → ∀ i, i < 5 → p + i < C.1 ∧ p + i ≠ 0 ∧ p + i ≠ g.1 e := fun p hp i hi => st _ (by omega) (by omega)
  have hps : g.2.2.2.2.1 = 168 ∨ g.2.2.2.2.1 = 173 := by omega
  have hpt : g.2.2.2.2.2.1 = 168 ∨ g.2.2.2.2.2.1 = 173 := by omega
  refine ⟨⟨?_, T1.kp E4 (st 1 (by decide) (by decide)) (st 2 (by decide) (by decide)), ?_, ?_, ⟨u1.kp E4 (hp _ hps), u2.kp E4 (hp _ hps), u3.kp E4 (hp _ hpt), pc⟩, v1.kp E4 ⟨st 15 (by decide) (by decide), st 16 (by decide) (by decide), st 17 (by decide) (by decide)⟩, v2.kp E4 fun x h1 h2 => st x (by omega) (by omega), ⟨ShN, ShN.2.2.1⟩, ?_⟩, ⟨?_, by omega, by omega, by omega⟩, ?_⟩
  · exact ⟨by rw [k0 0 (by decide)]; exact t1.1, by rw [k0 1 (by decide)]; exact t1.2.1, by rw [k0 2 (by decide)]; exact t1.2.2.1, by rw [k0 3 (by decide)]; exact t1.2.2.2.1, by rw [k0 4 (by decide)]; exact t1.2.2.2.2.1, k5, by rw [k0 6 (by decide)]; exact t1.2.2.2.2.2.2.1, by rw [k0 7 (by decide)]; exact t1.2.2.2.2.2.2.2⟩
  · -- the entries
    have p3 : cmP g.2.2.2.1 3 ∧ 3 < C.1 ∧ 3 ≠ 0 ∧ 3 ≠ g.1 e := ⟨R.cs (by decide) (by decide), st 3 (by decide) (by decide)⟩
    have p4 : cmP g.2.2.2.1 4 ∧ 4 < C.1 ∧ 4 ≠ 0 ∧ 4 ≠ g.1 e := ⟨R.cs (by decide) (by decide), st 4 (by decide) (by decide)⟩
    refine ⟨⟨by rw [(E5 3 p3).2.1]; exact H.1.1, by rw [(E5 4 p4).2.2]; exact H.1.2.1, by rw [(E5 3 p3).1, setC_len]; exact H.1.2.2⟩, fun i j hi hj => ?_, fun f hf => ?_⟩
    · rw [setC_len] at hi hj
      exact H.2.1 i j hi hj
    · rw [setC_len] at hf
      rw [setC_gE he, (E5 4 p4).2.1]
      refine ⟨(H.2.2 f hf).1, ?_⟩
      by_cases hfe : f = e
      · subst hfe
        rw [if_pos rfl]
        have ge : (gCom f nd g).2.2.1 f = g.2.2.2.1 := if_pos rfl
        obtain ⟨_, ⟨a1, a2, a3⟩, ⟨b1, b2, b3⟩, ⟨c1, c2, c4, c5⟩, _, _, _⟩ := H.2.2 f hf
        have kk : ∀ i, 0 < i → i < 4 → cmP g.2.2.2.1 (g.1 f + i) ∧ g.1 f + i < C.1 ∧ g.1 f + i ≠ 0 ∧ g.1 f + i ≠ g.1 f := fun i h1 h2 => fr _ (c3.1 f hf i h2) (by rw [rg.1 f hf i h2]; omega) (by omega)
        unfold cEn
        rw [ge]
        refine ⟨⟨by rw [show (gCom f nd g).1 = g.1 from rfl, qI 0 (by decide)]; exact a1, by rw [show (gCom f nd g).1 = g.1 from rfl, qR 1 (by decide)]; exact a2, a3.kp E5 (kk 1 (by decide) (by decide)) (kk 2 (by decide) (by decide))⟩, ⟨by rw [show (gCom f nd g).1 = g.1 from rfl, qR 2 (by decide)]; exact b1, by rw [show (gCom f nd g).1 = g.1 from rfl, qR 3 (by decide)]; exact b2, by rw [show (gCom f nd g).1 = g.1 from rfl, qI 4 (by decide)]; exact b3⟩, ⟨by rw [show (gCom f nd g).1 = g.1 from rfl, qR 5 (by decide)]; exact c1, by rw [show (gCom f nd g).1 = g.1 from rfl, (E5 _ (kk 3 (by decide) (by decide))).2.2]; exact c2, by rw [show (gCom f nd g).1 = g.1 from rfl, qI 6 (by decide)]; exact c4, fun k hk => ⟨by rw [show (gCom f nd g).1 = g.1 from rfl, (E5 _ (kk 3 (by decide) (by decide))).2.1]; exact (c5 k hk).1, (c5 k hk).2.kp E5 ?_ ?_⟩⟩, by rw [show (gCom f nd g).1 = g.1 from rfl, q8]; rfl, Or.inr ⟨q7, ShD⟩, fun c hc => ?_⟩
        · have h1 := c3.2.1 f hf k hk 0 (by decide)
          have h2 := f2 f hf k hk 0 (by decide)
          have h3 := n3 f hf k hk 0 (by decide)
          rw [Nat.add_zero] at h1 h2 h3
          exact fr _ h1 (by omega) h3
        · exact fr _ (c3.2.1 f hf k hk 1 (by decide)) (by have := f2 f hf k hk 1 (by decide); omega) (n3 f hf k hk 1 (by decide))
        · cases hc
          exact ⟨q7, by rw [(E4 _ d0).2.1]; exact h5, TD, RD⟩
      · rw [if_neg hfe]
        refine cEn_ca ((H.2.2 f hf).2.kp (wE1.2 f hf) E5 (fun i hi => fr _ (c3.1 f hf i hi) (by rw [rg.1 f hf i hi]; omega) (n2 f hf hfe i hi)) (fun k hk i hi => fr _ (c3.2.1 f hf k hk i hi) (by have := f2 f hf k hk i hi; omega) (n3 f hf k hk i hi)) (fun hc i hi => fr _ (c3.2.2 f hf hc i hi) (by rw [rg.2.2.1 f hf hc i hi]; omega) (n4 f hf hc i hi))) (if_neg hfe)
  · show cI Y 5 5 = nI 0
    rw [(E4 5 (st 5 (by decide) (by decide))).1]
    exact hF
  · -- the regions
    have inD : ∀ a, (g.2.2.2.1 ≤ a ∧ a < g.2.2.2.1 + 150) → g.2.2.2.2.2.2 a = 350 := fun a ha => by
      have := rg.2.2.2.1 (a - g.2.2.2.1) (by omega)
      rw [show g.2.2.2.1 + (a - g.2.2.2.1) = a by omega] at this
      exact this
    have inN : ∀ a, (nd ≤ a ∧ a < nd + 150) → g.2.2.2.2.2.2 a = 300 + e ∨ g.2.2.2.2.2.2 a = 9999 := fun a ha => by
      rcases hn with hn | hn
      · have := hn (a - nd) (by omega)
        rw [show nd + (a - nd) = a by omega] at this
        exact Or.inl this
      · exact Or.inr (rg.2.2.2.2.1 a (by omega))
    have rr : ∀ a, g.2.2.2.2.2.2 a ≠ 350 → g.2.2.2.2.2.2 a ≠ 300 + e → g.2.2.2.2.2.2 a ≠ 9999 → (gCom e nd g).2.2.2.2.2.2 a = g.2.2.2.2.2.2 a := fun a h1 h2 h3 => by
      show (if _ then _ else _) = _
      rw [if_neg fun h9 => h1 (inD a h9), if_neg fun h9 => by rcases inN a h9 with h8 | h8 <;> omega]
    refine ⟨fun f hf i hi => ?_, fun f hf k hk i hi => ?_, fun f hf hc i hi => ?_, fun i hi => ?_, fun a ha => ?_, fun a ha => ?_⟩
    · rw [setC_len] at hf
      have := rg.1 f hf i hi
      show (gCom e nd g).2.2.2.2.2.2 (g.1 f + i) = _
      rw [rr _ (by omega) (by omega) (by omega)]
      exact this
    · rw [setC_len] at hf
      have hk : k < (ePs (gE σ.2.1 f)).length := by
        rw [setC_gE he] at hk
        by_cases hfe : f = e
        · rw [if_pos hfe] at hk
          rw [hfe]
          exact hk
        · rw [if_neg hfe] at hk
          exact hk
      have := rg.2.1 f hf k hk i hi
      have h2 := f2 f hf k hk i hi
      show (gCom e nd g).2.2.2.2.2.2 (g.2.1 f k + i) = _
      rw [rr _ (by omega) (by omega) (by omega)]
      exact this
    · rw [setC_len] at hf
      by_cases hfe : f = e
      · subst hfe
        show (gCom f nd g).2.2.2.2.2.2 ((gCom f nd g).2.2.1 f + i) = _
        rw [show (gCom f nd g).2.2.1 f = g.2.2.2.1 from if_pos rfl]
        show (if _ then _ else _) = _
        rw [if_pos (by omega)]
      · have hc : cR Y (g.1 f) 7 ≠ none := hc
        have h0 := fr (g.1 f) (by have := c3.1 f hf 0 (by decide); rwa [Nat.add_zero] at this) (by have := rg.1 f hf 0 (by decide); rw [Nat.add_zero] at this; omega) (by have := n2 f hf hfe 0 (by decide); rwa [Nat.add_zero] at this)
        rw [(E5 _ h0).2.1] at hc
        have := rg.2.2.1 f hf hc i hi
        show (gCom e nd g).2.2.2.2.2.2 ((gCom e nd g).2.2.1 f + i) = _
        rw [show (gCom e nd g).2.2.1 f = g.2.2.1 f from if_neg hfe, rr _ (by omega) (by omega) (by omega)]
        exact this
    · show (if g.2.2.2.1 ≤ nd + i ∧ nd + i < g.2.2.2.1 + 150 then _ else if nd ≤ nd + i ∧ nd + i < nd + 150 then _ else _) = _
      rw [if_neg, if_pos (by omega)]
      intro h9
      have h8 := inD _ h9
      rcases inN (nd + i) (by omega) with h7 | h7 <;> omega
    · have ha : Y.1 ≤ a := ha
      have h9 := rg.2.2.2.2.1 a (by omega)
      show (if _ then _ else _) = _
      rw [if_neg (by omega), if_neg]
      · exact h9
      · intro h8
        rcases hn with hn | hn
        · have h7 := hn (a - nd) (by omega)
          rw [show nd + (a - nd) = a by omega] at h7
          omega
        · omega
    · have h9 := rg.2.2.2.2.2 a ha
      rw [rr a (by omega) (by omega) (by omega)]
      exact h9
  · exact v3.tr (E4.mono fun x hx => st x (by omega) (by omega))
  · rw [(E4 _ d0).1]
    exact T3.1.1
end PCCO
