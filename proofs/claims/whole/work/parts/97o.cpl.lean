section PCPL
variable {C C' C1 C2 : xC} {p : Nat} {o : Ou} {l : List Nat}
/-- a part of a text -/
theorem g54_s {t b room : Nat} {bs : List Nat} (hp : (t ≠ p ∧ t ≠ p + 1 ∧ t ≠ p + 2 ∧ t ≠ p + 3) ∧ (b ≠ p ∧ b ≠ p + 1 ∧ b ≠ p + 2 ∧ b ≠ p + 3)) (hr : room < 1000000) {i0 : Int32} : ∀ k n i z (C : xC) (l : List Nat), i + k = z → z ≤ bs.length → k < n → TX C t b room bs → pgW C p o l → ∃ C', gl54_3 n p (some t) i0 (nI z) (nI i) C = some C' ∧ pgW C' p o (l ++ cut bs i z) ∧ pwE p C C' := by
  intro k
  induction k with
  | zero =>
    intro n i z C l hi hz hn T W
    have u5 := T.2.2.2.2.1
    obtain ⟨n, rfl⟩ : ∃ x, n = x + 1 := ⟨n - 1, by omega⟩
    rw [gl54_3]
    dsimp only
    rw [if_pos (nI_le (by omega) (by omega)), show i = z by omega, cut_e, List.append_nil]
    exact ⟨C, rfl, W, pwE.rfl'⟩
  | succ k ih =>
    intro n i z C l hi hz hn T W
    have u5 := T.2.2.2.2.1
    have c1 := (T.2.2.2.2.2 i (by omega)).1
    have c1 : tx bs i < 256 := c1
    obtain ⟨n, rfl⟩ : ∃ x, n = x + 1 := ⟨n - 1, by omega⟩
    rw [gl54_3]
    dsimp only
    rw [if_neg (nI_ge (by omega) (by omega))]
    simp only [bS]
    rw [T.s (by omega)]
    simp only [bS]
    obtain ⟨D, d1, d2, d3⟩ := g52_s W (c := tx bs i) c1
    rw [bI_lt c1, d1]
    simp only [bS]
    rw [nI_1]
    obtain ⟨V, v1, v2, v3⟩ := ih n (i + 1) z D _ (by omega) hz (by omega) (T.kp d3.1 hp.1 hp.2) d2
    refine ⟨V, v1, ?_, d3.tr v3⟩
    rw [List.append_assoc] at v2
    have e : cut bs i z = [tx bs i] ++ cut bs (i + 1) z := by
      have h1 : cut bs i z = cut bs i (i + 1) ++ cut bs (i + 1) z := by
        unfold cut
        rw [show z - i = (i + 1 - i) + (z - (i + 1)) by omega, List.take_add, List.drop_drop, show i + (i + 1 - i) = i + 1 by omega]
      rw [h1, cut_s (Nat.le_refl i) (by omega), cut_e, List.nil_append]
    rw [e]
    exact v2
theorem g54_o {t b room : Nat} {bs : List Nat} (hp : (t ≠ p ∧ t ≠ p + 1 ∧ t ≠ p + 2 ∧ t ≠ p + 3) ∧ (b ≠ p ∧ b ≠ p + 1 ∧ b ≠ p + 2 ∧ b ≠ p + 3)) (hr : room < 1000000) {i z : Nat} (hi : i ≤ z) (hz : z ≤ bs.length) (T : TX C t b room bs) (W : pgW C p o l) : ∃ C', g54 p (some t) (nI i) (nI z) C = some C' ∧ pgW C' p o (l ++ cut bs i z) ∧ pwE p C C' := g54_s hp hr (z - i) xFuel i z C l (by omega) hz (pFuel _ (by have := T.2.2.2.2.1; omega)) T W
theorem pwE.u3 {k : Nat} {v : Int32} : pwE p C (uI C (p + 3) k v) := ⟨eqO.uI (fun h9 => h9.2.2.2 rfl), fun _ => rfl, by rw [uI_n (by omega)], by rw [uI_n (by omega)], ⟨rfl, rfl⟩, rfl, rfl⟩
/-- the line is closed -/
theorem g56_s (W : pgW C p o l) (ho : o.2.2 < 2 ^ 31) : ∃ C', g56 p C = some C' ∧ pgW C' p (ouL o l) [] ∧ pwE p C C' := by
  obtain ⟨⟨S, hw⟩, W⟩ := W
  have e1 : ((ouL o l).1 ++ []).length = (o.1 ++ l).length + 1 := by simp only [ouL, List.length_append, List.length_singleton, List.length_nil, Nat.add_zero]
  have e2 : (ouL o l).2.1.length ≤ (ouL o l).1.length := by simp only [ouL, List.length_append, List.length_singleton]; omega
  unfold g56
  rw [S.2.1]
  simp only [bS]
  rw [S.2.2]
  -- a line beside what is known
  have full : ∀ D : xC, pgS D p → (∃ bs, TX D (p + 1) (p + 2) 4000 bs) → (∃ n, n ≤ 4000 ∧ cI D p 3 = nI n) → 4000 < ((ouL o l).1 ++ []).length → pgW (uI D p 8 1) p (ouL o l) [] := fun D s1 ⟨bs, s2⟩ ⟨n, s3, s4⟩ s5 => ⟨⟨s1.u, e2⟩, Or.inr ⟨by rw [uI_e], ⟨bs, s2.kp (P := fun a => a ≠ p) (eqO.uI (fun h9 => h9 rfl)) (by omega) (by omega)⟩, ⟨n, s3, by rw [uI_n (by omega)]; exact s4⟩, s5⟩⟩
  rcases W with ⟨t, ⟨n1, n2⟩, n6, n7, n8⟩ | ⟨n8, ⟨bs, t⟩, ⟨n, hn, n3⟩, hl⟩
  · have t5 := t.2.2.2.2.1
    have tl : (o.1 ++ l).length = o.1.length + l.length := List.length_append
    rw [n1]
    by_cases h : o.2.1.length < 4000
    · rw [if_pos (show nI o.2.1.length < Int32.ofNat 4000 from nI_lt (b := 4000) h (by decide)), cSt_n (n := 4000) h S.2.2 (by decide)]
      simp only [bS]
      simp (disch := omega) only [uI_n, uI_e, uI_r, S.1, bS, n1, n6, n7, t.2.1, nI_1]
      rw [tl, pk_sub (show o.1.length ≤ o.1.length + l.length by omega), Nat.add_sub_cancel_left]
      have ex : xmax (nI o.2.2) (nI l.length) = nI (if o.2.2 < l.length then l.length else o.2.2) := by
        unfold xmax
        by_cases h9 : o.2.2 < l.length
        · rw [if_pos (nI_lt h9 (by omega)), if_pos h9]
        · rw [if_neg (nI_nlt (by omega) (by omega)), if_neg h9]
      rw [ex]
      have E1 : pwE p C (uI (uI (uI C (p + 3) o.2.1.length (nI o.1.length)) p 3 (nI (o.2.1.length + 1))) p 6 (nI (if o.2.2 < l.length then l.length else o.2.2))) := (pwE.u3.tr (pwE.u ⟨by decide, by decide⟩)).tr (pwE.u ⟨by decide, by decide⟩)
      have T1 : TX (uI (uI (uI C (p + 3) o.2.1.length (nI o.1.length)) p 3 (nI (o.2.1.length + 1))) p 6 (nI (if o.2.2 < l.length then l.length else o.2.2))) (p + 1) (p + 2) 4000 (o.1 ++ l) := t.kp (P := fun a => a ≠ p ∧ a ≠ p + 3) (((eqO.uI (fun h9 => h9.2 rfl)).tr (eqO.uI (fun h9 => h9.1 rfl))).tr (eqO.uI (fun h9 => h9.1 rfl))) ⟨by omega, by omega⟩ ⟨by omega, by omega⟩
      have q3 : cI (uI (uI (uI C (p + 3) o.2.1.length (nI o.1.length)) p 3 (nI (o.2.1.length + 1))) p 6 (nI (if o.2.2 < l.length then l.length else o.2.2))) p 3 = nI (o.2.1.length + 1) := by simp (disch := omega) only [uI_n, uI_e]
      have q6 : cI (uI (uI (uI C (p + 3) o.2.1.length (nI o.1.length)) p 3 (nI (o.2.1.length + 1))) p 6 (nI (if o.2.2 < l.length then l.length else o.2.2))) p 6 = nI (if o.2.2 < l.length then l.length else o.2.2) := by simp (disch := omega) only [uI_e]
      have q8 : cI (uI (uI (uI C (p + 3) o.2.1.length (nI o.1.length)) p 3 (nI (o.2.1.length + 1))) p 6 (nI (if o.2.2 < l.length then l.length else o.2.2))) p 8 = 0 := by simp (disch := omega) only [uI_n]; exact n8
      have qL : ∀ i, i < o.2.1.length + 1 → cI (uI (uI (uI C (p + 3) o.2.1.length (nI o.1.length)) p 3 (nI (o.2.1.length + 1))) p 6 (nI (if o.2.2 < l.length then l.length else o.2.2))) (p + 3) i = nI ((o.2.1 ++ [o.1.length]).getD i 0) := fun i hi => by
        rw [gD_app hi]
        by_cases h9 : i = o.2.1.length
        · rw [if_pos h9, h9]
          simp (disch := omega) only [uI_n, uI_e]
        · rw [if_neg h9]
          simp (disch := omega) only [uI_n]
          exact n2 i (by omega)
      have S1 : pgS (uI (uI (uI C (p + 3) o.2.1.length (nI o.1.length)) p 3 (nI (o.2.1.length + 1))) p 6 (nI (if o.2.2 < l.length then l.length else o.2.2))) p := S
      generalize uI (uI (uI C (p + 3) o.2.1.length (nI o.1.length)) p 3 (nI (o.2.1.length + 1))) p 6 (nI (if o.2.2 < l.length then l.length else o.2.2)) = D at E1 T1 q3 q6 q8 qL S1 ⊢
      unfold g52 gj52_16
      rw [S1.1]
      simp only [bS]
      by_cases h4 : (o.1 ++ l).length < 4000
      · obtain ⟨V, v1, v2, v3, v4⟩ := g97_s T1 h4 (by omega) (nI 10)
        rw [show (10 : Int32) = nI 10 from rfl, v1]
        simp only [bS]
        rw [if_neg (show ¬ (1 : Int32) = 0 by decide)]
        simp only [bS]
        have ev := v3 p (by omega)
        rw [ev.2.1, S1.1]
        simp only [bS]
        rw [bOf_nI (by decide)] at v2
        rw [v2.2.1]
        refine ⟨_, rfl, ⟨⟨(S1.t v3).u, e2⟩, Or.inl ⟨?_, ⟨?_, fun i hi => ?_⟩, ?_, ?_, ?_⟩⟩, (E1.tr (pwE.t v3 v4)).tr (pwE.u ⟨by decide, by decide⟩)⟩
        · rw [List.append_nil]
          exact v2.kp (P := fun a => a ≠ p) (eqO.uI (fun h9 => h9 rfl)) (by omega) (by omega)
        · rw [uI_n (by omega), ev.1, q3]
          simp [ouL]
        · rw [uI_n (by omega), (v3 (p + 3) (by omega)).1]
          exact qL i (by simpa [ouL] using hi)
        · rw [uI_n (by omega), ev.1, q6]
          rfl
        · rw [uI_e]
          simp [ouL]
        · rw [uI_n (by omega), ev.1]
          exact q8
      · rw [g97_f T1 h4]
        simp only [bS]
        rw [if_pos trivial]
        simp only [bS]
        rw [uI_r, S1.1]
        simp only [bS]
        have F := full D S1 ⟨_, T1⟩ ⟨_, by omega, q3⟩ (by omega)
        refine ⟨_, rfl, ?_, (E1.tr (pwE.u ⟨by decide, by decide⟩)).tr (pwE.u ⟨by decide, by decide⟩)⟩
        obtain ⟨⟨f1, f2⟩, f3⟩ := F
        refine ⟨⟨f1.u, f2⟩, ?_⟩
        rcases f3 with f3 | ⟨g1, ⟨bs, g2⟩, ⟨n, g3, g4⟩, g5⟩
        · have := f3.2.2.2.2
          rw [uI_e] at this
          exact absurd this (by decide)
        · exact Or.inr ⟨by rw [uI_n (by omega)]; exact g1, ⟨bs, g2.kp (P := fun a => a ≠ p) (eqO.uI (fun h9 => h9 rfl)) (by omega) (by omega)⟩, ⟨n, g3, by rw [uI_n (by omega)]; exact g4⟩, g5⟩
    · rw [if_neg (show ¬ nI o.2.1.length < Int32.ofNat 4000 from nI_nlt (b := 4000) (by omega) (by omega))]
      exact ⟨_, rfl, full C S ⟨_, t⟩ ⟨_, by omega, n1⟩ (by omega), pwE.u ⟨by decide, by decide⟩⟩
  · rw [n3]
    by_cases h : n < 4000
    · rw [if_pos (show nI n < Int32.ofNat 4000 from nI_lt (b := 4000) h (by decide)), cSt_n (n := 4000) h S.2.2 (by decide)]
      simp only [bS]
      simp (disch := omega) only [uI_n, uI_e, uI_r, S.1, bS, n3, nI_1]
      generalize cI C p 7 = v7
      generalize xmax (cI C p 6) (cI C (p + 1) 1 - v7) = v6
      have WF : pgW (uI (uI (uI C (p + 3) n v7) p 3 (nI (n + 1))) p 6 v6) p o l := ⟨⟨S, hw⟩, Or.inr ⟨by simp (disch := omega) only [uI_n]; exact n8, ⟨bs, t.kp (P := fun a => a ≠ p ∧ a ≠ p + 3) (((eqO.uI (fun h9 => h9.2 rfl)).tr (eqO.uI (fun h9 => h9.1 rfl))).tr (eqO.uI (fun h9 => h9.1 rfl))) ⟨by omega, by omega⟩ ⟨by omega, by omega⟩⟩, ⟨n + 1, by omega, by simp (disch := omega) only [uI_n, uI_e]⟩, hl⟩⟩
      have E1 : pwE p C (uI (uI (uI C (p + 3) n v7) p 3 (nI (n + 1))) p 6 v6) := (pwE.u3.tr (pwE.u ⟨by decide, by decide⟩)).tr (pwE.u ⟨by decide, by decide⟩)
      obtain ⟨V, v1, v2, v3⟩ := g52_s WF (c := 10) (by decide)
      rw [show (10 : Int32) = nI 10 from rfl, v1]
      simp only [bS]
      obtain ⟨⟨s1, _⟩, f3⟩ := v2
      rw [s1.1]
      simp only [bS]
      have e3 : (o.1 ++ (l ++ [10])).length = (o.1 ++ l).length + 1 := by simp only [List.length_append, List.length_singleton]; omega
      refine ⟨_, rfl, ⟨⟨s1.u, e2⟩, ?_⟩, (E1.tr v3).tr (pwE.u ⟨by decide, by decide⟩)⟩
      rcases f3 with f3 | ⟨g1, ⟨b2, g2⟩, ⟨n2, g3, g4⟩, g5⟩
      · have := f3.1.2.2.2.2.1
        omega
      · exact Or.inr ⟨by rw [uI_n (by omega)]; exact g1, ⟨b2, g2.kp (P := fun a => a ≠ p) (eqO.uI (fun h9 => h9 rfl)) (by omega) (by omega)⟩, ⟨n2, g3, by rw [uI_n (by omega)]; exact g4⟩, by omega⟩
    · rw [if_neg (show ¬ nI n < Int32.ofNat 4000 from nI_nlt (b := 4000) (by omega) (by omega))]
      exact ⟨_, rfl, full C S ⟨bs, t⟩ ⟨n, hn, n3⟩ (by omega), pwE.u ⟨by decide, by decide⟩⟩
end PCPL
