section PCWS
variable {C C' : xC} {σ : St} {g : Gh} {S : mS}
theorem b4_lt (x : Int32) : ∀ c ∈ b4 x, c < 256 := fun c hc => by
  unfold b4 at hc
  simp only [List.mem_cons, List.not_mem_nil, or_false] at hc
  rcases hc with rfl | rfl | rfl | rfl <;> exact bOf_lt _
theorem w_feed (w : wSt σ) (a : Nat → Int32) : wSt (stp σ 0 a).2 := by
  show wSt (if 600 < σ.1.length + 20 then (-3, σ) else (nI (σ.1.length + 20), σ.1 ++ b4 (a 1) ++ b4 (a 2) ++ b4 (a 3) ++ b4 (a 4) ++ b4 (a 5), σ.2)).2
  by_cases h : 600 < σ.1.length + 20
  · rw [if_pos h]
    exact w
  · rw [if_neg h]
    refine ⟨⟨?_, fun c hc => ?_⟩, w.2⟩
    · show (σ.1 ++ b4 (a 1) ++ b4 (a 2) ++ b4 (a 3) ++ b4 (a 4) ++ b4 (a 5)).length ≤ 600
      simp only [List.length_append, show ∀ x, (b4 x).length = 4 from fun _ => rfl]
      omega
    · have hc : c ∈ σ.1 ++ b4 (a 1) ++ b4 (a 2) ++ b4 (a 3) ++ b4 (a 4) ++ b4 (a 5) := hc
      simp only [List.mem_append] at hc
      rcases hc with ((((hc | hc) | hc) | hc) | hc) | hc
      · exact w.1.2 c hc
      all_goals exact b4_lt _ c hc
theorem w_end (w : wSt σ) (a : Nat → Int32) : wSt (stp σ 1 a).2 := by
  show wSt (if a 1 < 0 ∨ nI σ.1.length < a 1 then (-1, σ) else (nI σ.1.length, σ.1.take (a 1).toNatClampNeg, σ.2)).2
  by_cases h : a 1 < 0 ∨ nI σ.1.length < a 1
  · rw [if_pos h]
    exact w
  · rw [if_neg h]
    refine ⟨⟨?_, fun c hc => ?_⟩, w.2⟩
    · show (σ.1.take (a 1).toNatClampNeg).length ≤ 600
      rw [List.length_take]
      have := w.1.1
      omega
    · exact w.1.2 c (List.mem_of_mem_take hc)
theorem w_nil (w : wSt σ) : wSt ([], σ.2) := ⟨⟨Nat.zero_le _, fun c hc => absurd hc (List.not_mem_nil)⟩, w.2⟩
theorem w_bare (w : wSt σ) (a : Nat → Int32) : wSt (stp σ 7 a).2 := by
  show wSt (sBare σ (a 1)).2
  unfold sBare
  cases he : eIx σ.2.1 (a 1) with
  | none => exact w
  | some e =>
    obtain ⟨hel, _⟩ := eIx_lt he
    dsimp only
    cases hc : eCm (gE σ.2.1 e) with
    | none => exact w
    | some c =>
      exact ⟨w.1, w_setC w.2.1 hel (fun m hm => by cases hm), w.2.2.1, ⟨w.2.2.2.1.1, fun c hc => by rw [setC_len]; exact w.2.2.2.1.2 c hc⟩, w.2.2.2.2⟩
/-- what a call of the class does -/
def cD (C : xC) (σ : St) (k : Nat) (a : Nat → Int32) (r : Option (Int32 × xC)) : Prop := ∃ C' g', r = some ((stp σ k a).1, C') ∧ CR C' (stp σ k a).2 g' ∧ Kp C C' ∧ wSt (stp σ k a).2
/-- what a call of the reference does -/
def mD (σ : St) (k : Nat) (a : Nat → Int32) (r : Option (Int32 × mS)) : Prop := ∃ S', r = some ((stp σ k a).1, S') ∧ MR S' (stp σ k a).2
theorem cc_0 (R : CR C σ g) (w : wSt σ) (a : Nat → Int32) : cD C σ 0 a (g112 0 (a 1) (a 2) (a 3) (a 4) (a 5) C) := by
  obtain ⟨C', h1, h2, h3⟩ := c_feed R w a
  exact ⟨C', g, h1, h2, h3, w_feed w a⟩
theorem cc_1 (R : CR C σ g) (w : wSt σ) (a : Nat → Int32) : cD C σ 1 a (g113 0 (a 1) C) := by
  obtain ⟨C', h1, h2, h3⟩ := c_end R w a
  exact ⟨C', g, h1, h2, h3, w_end w a⟩
theorem cc_2 (R : CR C σ g) (w : wSt σ) (a : Nat → Int32) : cD C σ 2 a (g114 0 (a 1) C) := c_type R w a
theorem cc_3 (R : CR C σ g) (w : wSt σ) (a : Nat → Int32) {b2 : Bool} (hb2 : b2 = decide (a 2 ≠ 0)) : cD C σ 3 a (g115 0 (a 1) (bZ b2) C) := c_member R w a hb2
theorem cc_4 (R : CR C σ g) (w : wSt σ) (a : Nat → Int32) : cD C σ 4 a (g116 0 (a 1) C) := c_param R w a
theorem cc_5 (R : CR C σ g) (w : wSt σ) (a : Nat → Int32) : cD C σ 5 a (g117 0 (a 1) C) := c_comment R w a
theorem cc_6 (R : CR C σ g) (w : wSt σ) (a : Nat → Int32) : cD C σ 6 a (g119 0 C) := ⟨C, g, c_fault R a, R, Kp.rfl', w⟩
theorem cc_7 (R : CR C σ g) (w : wSt σ) (a : Nat → Int32) : cD C σ 7 a (g120 0 (a 1) C) := by
  obtain ⟨C', h1, h2, h3⟩ := c_bare R w a
  exact ⟨C', g, h1, h2, h3, w_bare w a⟩
theorem cc_8 (R : CR C σ g) (w : wSt σ) (a : Nat → Int32) : cD C σ 8 a (g121 0 (a 1) (a 2) C) := ⟨C, g, c_told R w _ _, R, Kp.rfl', w⟩
theorem cc_9 (R : CR C σ g) (w : wSt σ) (a : Nat → Int32) : cD C σ 9 a (g122 0 (a 1) (a 2) (a 3) C) := ⟨C, g, c_block R w _ _ _, R, Kp.rfl', w⟩
theorem cc_10 (R : CR C σ g) (w : wSt σ) (a : Nat → Int32) : cD C σ 10 a (g123 0 (a 1) (a 2) (a 3) C) := ⟨C, g, c_piece R w _ _ _, R, Kp.rfl', w⟩
theorem cc_11 (R : CR C σ g) (w : wSt σ) (a : Nat → Int32) : cD C σ 11 a (g124 0 (a 1) C) := by
  obtain ⟨C', h1, h2, h3⟩ := c_leads R w a
  exact ⟨C', g, h1, h2, h3, w_nil w⟩
theorem cc_12 (R : CR C σ g) (w : wSt σ) (a : Nat → Int32) : cD C σ 12 a (g125 0 (a 1) (a 2) (a 3) C) := c_page R w a
theorem cc_13 (R : CR C σ g) (w : wSt σ) (a : Nat → Int32) : cD C σ 13 a (g126 0 (a 1) C) := ⟨C, g, c_about R _, R, Kp.rfl', w⟩
theorem cc_14 (R : CR C σ g) (w : wSt σ) (a : Nat → Int32) : cD C σ 14 a (g127 0 (a 1) C) := ⟨C, g, c_at R w _, R, Kp.rfl', w⟩
theorem cc_15 (R : CR C σ g) (w : wSt σ) (a : Nat → Int32) : cD C σ 15 a (g128 0 (a 1) C) := ⟨C, g, c_line R w _, R, Kp.rfl', w⟩
theorem cc_16 (R : CR C σ g) (w : wSt σ) (a : Nat → Int32) : cD C σ 16 a (g129 0 (a 1) C) := ⟨C, g, c_target R w _, R, Kp.rfl', w⟩
theorem cc_17 (R : CR C σ g) (w : wSt σ) (a : Nat → Int32) : cD C σ 17 a (g130 0 (a 1) C) := by
  obtain ⟨C', h1, h2, h3, h4⟩ := c_notes R w a
  exact ⟨C', g, h1, h2, h3, h4⟩
theorem cc_18 (R : CR C σ g) (w : wSt σ) (a : Nat → Int32) : cD C σ 18 a (g131 0 (a 1) (a 2) C) := ⟨C, g, c_note R w _ _, R, Kp.rfl', w⟩
theorem cc_19 (R : CR C σ g) (w : wSt σ) (a : Nat → Int32) : cD C σ 19 a (g132 0 (a 1) C) := ⟨C, g, c_count R w _, R, Kp.rfl', w⟩
theorem mm_0 (M : MR S σ) (w : wSt σ) (a : Nat → Int32) : mD σ 0 a (g143 (a 1) (a 2) (a 3) (a 4) (a 5) S) := m_feed M w a
theorem mm_1 (M : MR S σ) (w : wSt σ) (a : Nat → Int32) : mD σ 1 a (g144 (a 1) S) := m_end M w a
theorem mm_2 (M : MR S σ) (w : wSt σ) (a : Nat → Int32) : mD σ 2 a (g153 (a 1) S) := m_type M w a
theorem mm_3 (M : MR S σ) (w : wSt σ) (a : Nat → Int32) {b2 : Bool} (hb2 : b2 = decide (a 2 ≠ 0)) : mD σ 3 a (g154 (a 1) (bZ b2) S) := m_member M w a hb2
theorem mm_4 (M : MR S σ) (w : wSt σ) (a : Nat → Int32) : mD σ 4 a (g155 (a 1) S) := m_param M w a
theorem mm_5 (M : MR S σ) (w : wSt σ) (a : Nat → Int32) : mD σ 5 a (g189 (a 1) S) := m_comment M w a
theorem mm_6 (M : MR S σ) (w : wSt σ) (a : Nat → Int32) : mD σ 6 a (g190 S) := ⟨S, g190_s M a, M⟩
theorem mm_7 (M : MR S σ) (w : wSt σ) (a : Nat → Int32) : mD σ 7 a (g191 (a 1) S) := m_bare M w a
theorem mm_8 (M : MR S σ) (w : wSt σ) (a : Nat → Int32) : mD σ 8 a (g192 (a 1) (a 2) S) := ⟨S, g192_s M w _ _, M⟩
theorem mm_9 (M : MR S σ) (w : wSt σ) (a : Nat → Int32) : mD σ 9 a (g193 (a 1) (a 2) (a 3) S) := ⟨S, g193_s M w _ _ _, M⟩
theorem mm_10 (M : MR S σ) (w : wSt σ) (a : Nat → Int32) : mD σ 10 a (g194 (a 1) (a 2) (a 3) S) := ⟨S, g194_s M w _ _ _, M⟩
theorem mm_11 (M : MR S σ) (w : wSt σ) (a : Nat → Int32) : mD σ 11 a (g165 (a 1) S) := m_leads M w a
theorem mm_12 (M : MR S σ) (w : wSt σ) (a : Nat → Int32) : mD σ 12 a (g214 (a 1) (a 2) (a 3) S) := m_page M w a
theorem mm_13 (M : MR S σ) (w : wSt σ) (a : Nat → Int32) : mD σ 13 a (g215 (a 1) S) := ⟨S, g215_s M _, M⟩
theorem mm_14 (M : MR S σ) (w : wSt σ) (a : Nat → Int32) : mD σ 14 a (g216 (a 1) S) := ⟨S, g216_s M w _, M⟩
theorem mm_15 (M : MR S σ) (w : wSt σ) (a : Nat → Int32) : mD σ 15 a (g217 (a 1) S) := ⟨S, g217_s M w _, M⟩
theorem mm_16 (M : MR S σ) (w : wSt σ) (a : Nat → Int32) : mD σ 16 a (g218 (a 1) S) := ⟨S, g218_s M w _, M⟩
theorem mm_17 (M : MR S σ) (w : wSt σ) (a : Nat → Int32) : mD σ 17 a (g224 (a 1) S) := m_notes M w a
theorem mm_18 (M : MR S σ) (w : wSt σ) (a : Nat → Int32) : mD σ 18 a (g225 (a 1) (a 2) S) := ⟨S, g225_s M w _ _, M⟩
theorem mm_19 (M : MR S σ) (w : wSt σ) (a : Nat → Int32) : mD σ 19 a (g226 (a 1) S) := ⟨S, g226_s M w _, M⟩
/-- the reference's cells alone change -/
theorem CR_ref (R : CR C σ g) (w : wSt σ) (E : eqO (fun a => a < 178 ∨ 224 ≤ a) C C') (s : sm C C') : CR C' σ g := by
  have E2 : eqO (fun a => a ∉ List.range' 178 46) C C' := E.mono fun a ha => by
    rw [List.mem_range'_1] at ha
    omega
  obtain ⟨k1, k2, k3, k4⟩ := CR_static R w E2 (fun x hx => by rw [List.mem_range'_1] at hx; omega) ⟨by decide, by decide⟩
  obtain ⟨a, b, _, d, ⟨e1, e2, e3, e4⟩, f, h, _, _⟩ := R
  have hp : ∀ p, p = 168 ∨ p = 173 → ∀ i, i < 5 → p + i < 178 ∨ 224 ≤ p + i := by omega
  have hps : g.2.2.2.2.1 = 168 ∨ g.2.2.2.2.1 = 173 := by omega
  have hpt : g.2.2.2.2.2.1 = 168 ∨ g.2.2.2.2.2.1 = 173 := by omega
  exact ⟨a.kp E (by decide), b.kp E (by decide) (by decide), k1, by rw [(E 5 (by decide)).1]; exact d, ⟨e1.kp E (hp _ hps), e2.kp E (hp _ hps), e3.kp E (hp _ hpt), e4⟩, f.kp E (by decide), h.kp E fun x _ _ => by omega, ⟨k2, k3⟩, k4 s.1⟩
end PCWS
