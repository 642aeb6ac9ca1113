section PCCC
variable {C C' : xC} {σ : St} {g : Gh} {es : List En}
theorem w_setC (w : wE es) {e : Nat} (he : e < es.length) {c : Option Cm} (hc : ∀ m, c = some m → wC m) : wE (setC es e c) := by
  have ow : ∀ x, eOw (gE (setC es e c) x) = eOw (gE es x) := fun x => by
    rw [setC_gE he]
    by_cases h : x = e
    · rw [if_pos h, h]
      rfl
    · rw [if_neg h]
  refine ⟨by rw [setC_len]; exact w.1, fun f hf => ?_⟩
  rw [setC_len] at hf
  have k := w.2 f hf
  rw [setC_gE he]
  by_cases h : f = e
  · subst h
    rw [if_pos rfl]
    obtain ⟨k1, k2, k3, k4, k5, k6, k7, k8, k9⟩ := k
    exact ⟨fun o ho => ⟨(k1 o ho).1, by rw [ow]; exact (k1 o ho).2⟩, fun o ho => ⟨(k2 o ho).1, by rw [ow]; exact (k2 o ho).2⟩, k3, k4, k5, k6, k7, k8, hc⟩
  · rw [if_neg h]
    obtain ⟨k1, k2, k3⟩ := k
    exact ⟨fun o ho => ⟨(k1 o ho).1, by rw [ow]; exact (k1 o ho).2⟩, fun o ho => ⟨(k2 o ho).1, by rw [ow]; exact (k2 o ho).2⟩, k3⟩
/-- a comment is refused -/
theorem c_com3 (R : CR C σ g) (w : wSt σ) {C3 : xC} (E : eqO (cmP g.2.2.2.1) C C3) (S3 : sm C C3) (N : nS C3) (T1 : TX C3 1 2 600 []) (Sh : cSh C3 g.2.2.2.1) {q : Nat × Nat} (hF : fS C3 (some q)) : CR C3 ([], σ.2.1, q.1, σ.2.2.2) g ∧ Kp C C3 := by
  have c3 := R.c3 w
  have RR := CR_read R E N
  have p3 := R.cs (a := 3) (by decide) (by decide)
  have p4 := R.cs (a := 4) (by decide) (by decide)
  obtain ⟨t1, ⟨u1, u2, u3⟩, v1, v2, v3⟩ := RR
  obtain ⟨a, b, H, d, ⟨e1, e2, e3, e4⟩, f, h, _, rg⟩ := R
  refine ⟨⟨t1, T1, H.kp w.2.1 E ⟨p3, p4⟩ c3.1 c3.2.1 c3.2.2, hF.1, ⟨u1, u2, u3, e4⟩, v1, v2, ⟨Sh, Sh.2.2.1⟩, rg.1, rg.2.1, fun e he hc => rg.2.2.1 e he ?_, rg.2.2.2.1, fun x hx => rg.2.2.2.2.1 x (by have := S3.1; omega), rg.2.2.2.2.2⟩, v3, by rw [S3.1]; exact Nat.le_refl _, by rw [S3.1]; omega, by rw [S3.2]; omega⟩
  have h0 := c3.1 e he 0 (by decide)
  rw [Nat.add_zero] at h0
  rw [(E _ h0).2.1] at hc
  exact hc
theorem c_comment (R : CR C σ g) (w : wSt σ) (a : Nat → Int32) : ∃ C' g', g117 0 (a 1) C = some ((stp σ 5 a).1, C') ∧ CR C' (stp σ 5 a).2 g' ∧ Kp C C' ∧ wSt (stp σ 5 a).2 := by
  have H := R.2.2.1
  have wE1 := w.2.1
  have w0 : wT ([] : List Nat) := ⟨Nat.zero_le _, fun c hc => by cases hc⟩
  show ∃ C' g', _ = some ((sCom σ (a 1)).1, C') ∧ CR C' (sCom σ (a 1)).2 g' ∧ Kp C C' ∧ wSt (sCom σ (a 1)).2
  unfold g117 sCom gj117_82
  rw [R.1.2.1]
  simp only [bS]
  rw [g83_s H wE1]
  simp only [bS]
  cases hx : eIx σ.2.1 (a 1) with
  | none =>
    rw [if_pos (show Option.map g.1 none = none from rfl), R.1.1]
    simp only [bS]
    obtain ⟨D, d1, d2, d3, d4, d5⟩ := c_cut0 R w
    rw [d1]
    exact ⟨D, g, rfl, d2, d3, d5⟩
  | some e =>
    obtain ⟨he, _⟩ := eIx_lt hx
    rw [Option.map_some, if_neg (by simp), R.1.2.2.2.2.2.1]
    simp only [bS]
    obtain ⟨C1, C2, C3, a1, a2, a3, a4, a5, a6, E, S3, N, T1, Sh, T2, h5, h7⟩ := c_com1 R w he
    rw [R.1.1, a1]
    simp only [bS]
    rw [a2]
    simp only [bS]
    rw [a3]
    simp only [bS]
    rw [a4, a5]
    simp only [bS]
    rw [a6]
    simp only [bS]
    have RR := CR_read R E N
    rw [RR.1.2.2.1]
    simp only [bS]
    cases hr : rdC σ.1 (!isTy σ.2.1 e) with
    | mk r o =>
      rw [hr] at h7
      cases o with
      | some q =>
        have hc := rdC_c (bs := σ.1) (mb := !isTy σ.2.1 e) (q := q) (by rw [hr])
        obtain ⟨qc, qp⟩ := q
        dsimp only at h7 hc ⊢
        rw [h7.1, h7.2.1, if_neg (nI_ne0 (n := qc) (by omega) (by omega))]
        obtain ⟨x1, x2⟩ := c_com3 R w E S3 N T1 Sh h7
        exact ⟨C3, g, rfl, x1, x2, w0, wE1, hc.2, w.2.2.2.1, w.2.2.2.2⟩
      | none =>
        dsimp only at h7 ⊢
        obtain ⟨hF, T3⟩ := h7
        have wr := rdC_w (bs := σ.1) (mb := !isTy σ.2.1 e) (by rw [hr])
        rw [hr] at wr
        dsimp only at wr
        have c3 := R.c3 w
        have h0 := c3.1 e he 0 (by decide)
        rw [Nat.add_zero] at h0
        have wN : wSt ([], setC σ.2.1 e (some (σ.1, r.1, r.2)), 0, σ.2.2.2) := ⟨w0, w_setC wE1 he (fun m hm => by cases hm; exact ⟨w.1, wr⟩), Nat.zero_le _, ⟨w.2.2.2.1.1, fun c hc => by rw [setC_len]; exact w.2.2.2.1.2 c hc⟩, w.2.2.2.2⟩
        rw [if_pos (show cI C3 5 5 = 0 from hF)]
        unfold g118 gj118_27
        simp only [bS]
        rw [(E _ h0).2.1, RR.1.2.2.2.2.2.1]
        have f := (H.2.2 e he).2.2.2.2.2.1
        rcases f with f | f
        · rw [f.1, if_pos (Eq.refl none)]
          obtain ⟨X, x1, x2, x3, x4, x5, x6⟩ := g3_s (C := C3) (c := C3.1) rfl
          rw [x1]
          simp only [bS]
          obtain ⟨y1, y2, y3⟩ := c_com2 R w he E S3 N T1 Sh T2 h5 hF T3 (by have := wr.1; omega) wr.2.1 (X := X) (nd := C3.1) (x4.mono fun b hb => by rw [S3.1]; exact hb) x2 ⟨by rw [x5, S3.1]; omega, by rw [x5, S3.1]; omega⟩ (by rw [S3.2] at x6; exact x6) (Or.inr ⟨S3.1, by rw [x5, S3.1]⟩)
          rw [y3]
          exact ⟨_, _, rfl, y1, y2, wN⟩
        · rw [f.1, if_neg (by simp)]
          simp only [bS]
          have hne : cR C (g.1 e) 7 ≠ none := by rw [f.1]; simp
          obtain ⟨y1, y2, y3⟩ := c_com2 R w he E S3 N T1 Sh T2 h5 hF T3 (by have := wr.1; omega) wr.2.1 (X := C3) (nd := g.2.2.1 e) eqO.rfl' (f.2.kp E (c3.2.2 e he hne)) ⟨by rw [S3.1]; exact Nat.le_refl _, by rw [S3.1]; omega⟩ (by rw [S3.2]; omega) (Or.inl fun i hi => R.2.2.2.2.2.2.2.2.2.2.1 e he hne i hi)
          rw [y3]
          exact ⟨_, _, rfl, y1, y2, wN⟩
end PCCC
