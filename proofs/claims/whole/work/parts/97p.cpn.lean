section PCPN
variable {C C' : xC} {p : Nat} {o : Ou} {l : List Nat} {g : Gh} {es : List En}
/-- the name of an entry -/
theorem g55_s (w : wE es) (HS : ∀ D, pwE p C D → cE D g.1 g.2.1 g.2.2.1 es) (np : ∀ e, e < es.length → ∀ i, i < 4 → g.1 e + i ≠ p ∧ g.1 e + i ≠ p + 1 ∧ g.1 e + i ≠ p + 2 ∧ g.1 e + i ≠ p + 3) {e : Nat} (he : e < es.length) (W : pgW C p o l) : ∃ C', g55 p (some (g.1 e)) C = some C' ∧ pgW C' p o (l ++ eNam es e) ∧ pwE p C C' := by
  have own : ∀ (D : xC) (f : Nat) (l : List Nat), pwE p C D → f < es.length → pgW D p o l → ∃ C', gj55_35 p (some (g.1 f)) D = some C' ∧ pgW C' p o (l ++ eNm (gE es f)) ∧ pwE p C C' := fun D f l ED hf WD => by
    have hE := ((HS D ED).2.2 f hf).2
    unfold gj55_35
    simp only [bS]
    rw [hE.1.2.1]
    simp only [bS]
    rw [hE.1.2.2.2.1]
    obtain ⟨V, v1, v2, v3⟩ := g54_o ⟨np f hf 1 (by decide), np f hf 2 (by decide)⟩ (by decide) (Nat.zero_le (eNm (gE es f)).length) (Nat.le_refl _) hE.1.2.2 WD
    rw [show g54 p (some (g.1 f + 1)) 0 (nI (eNm (gE es f)).length) D = g54 p (some (g.1 f + 1)) (nI 0) (nI (eNm (gE es f)).length) D from Eq.refl _, v1]
    simp only [bS]
    rw [cut_all] at v2
    exact ⟨V, rfl, v2, ED.tr v3⟩
  have hE := ((HS C pwE.rfl').2.2 e he).2
  unfold g55
  simp only [bS]
  rw [hE.2.1.1]
  unfold eNam
  cases ho : eOw (gE es e) with
  | none =>
    rw [if_pos (show Option.map g.1 none = none from rfl)]
    exact own C e l pwE.rfl' he W
  | some f =>
    have hf : f < es.length := by
      have := ((w.2 e he).1 f ho).1
      omega
    rw [Option.map_some, if_neg (show ¬ some (g.1 f) = none by simp)]
    simp only [bS]
    have hF := ((HS C pwE.rfl').2.2 f hf).2
    rw [hF.1.2.1]
    simp only [bS]
    rw [hF.1.2.2.2.1]
    obtain ⟨V, v1, v2, v3⟩ := g54_o ⟨np f hf 1 (by decide), np f hf 2 (by decide)⟩ (by decide) (Nat.zero_le (eNm (gE es f)).length) (Nat.le_refl _) hF.1.2.2 W
    rw [show g54 p (some (g.1 f + 1)) 0 (nI (eNm (gE es f)).length) C = g54 p (some (g.1 f + 1)) (nI 0) (nI (eNm (gE es f)).length) C from Eq.refl _, v1]
    simp only [bS]
    rw [cut_all] at v2
    obtain ⟨X, x1, x2, x3⟩ := g52_s v2 (c := 46) (by decide)
    rw [show (46 : Int32) = nI 46 from rfl, x1]
    simp only [bS]
    obtain ⟨Y, y1, y2, y3⟩ := own X e _ (v3.tr x3) he x2
    exact ⟨Y, y1, by simpa only [List.append_assoc] using y2, y3⟩
/-- wiping -/
theorem g51_s (S : pgS C p) {bs : List Nat} (T : TX C (p + 1) (p + 2) 4000 bs) : ∃ C', g51 p C = some C' ∧ pgW C' p ([], [], 0) [] ∧ cI C' p 4 = 0 ∧ cI C' p 5 = 0 ∧ eqO (fun a => a ≠ p ∧ a ≠ p + 1) C C' ∧ (∀ k, cR C' p k = cR C p k) ∧ sm C C' := by
  obtain ⟨D, d1, d2, d3, d4⟩ := g101_0 T (by omega)
  have e := d3 p (by omega)
  unfold g51
  rw [S.1]
  simp only [bS]
  rw [d1]
  simp only [bS]
  refine ⟨_, rfl, ⟨⟨⟨by simp only [uI_r]; rw [e.2.1]; exact S.1, by simp only [uI_r]; rw [e.2.1]; exact S.2.1, by simp only [uI_K]; rw [(d3 (p + 3) (by omega)).2.2]; exact S.2.2⟩, Nat.le_refl _⟩, Or.inl ⟨?_, ⟨?_, fun i hi => absurd hi (Nat.not_lt_zero _)⟩, ?_, ?_, ?_⟩⟩, ?_, ?_, ?_, fun k => by simp only [uI_r]; exact e.2.1 k, d4.tr ⟨rfl, rfl⟩⟩
  · exact d2.kp (P := fun a => a ≠ p) ((((((eqO.uI (fun h9 => h9 rfl)).tr (eqO.uI (fun h9 => h9 rfl))).tr (eqO.uI (fun h9 => h9 rfl))).tr (eqO.uI (fun h9 => h9 rfl))).tr (eqO.uI (fun h9 => h9 rfl))).tr (eqO.uI (fun h9 => h9 rfl))) (by omega) (by omega)
  · simp (disch := omega) only [uI_n, uI_e]; rfl
  · simp (disch := omega) only [uI_n, uI_e]; rfl
  · simp (disch := omega) only [uI_n, uI_e]; rfl
  · simp (disch := omega) only [uI_e]
  · simp (disch := omega) only [uI_n, uI_e]
  · simp (disch := omega) only [uI_n, uI_e]
  · exact ((((((d3.mono fun a ha => ha.2).tr (eqO.uI (fun h9 => h9.1 rfl))).tr (eqO.uI (fun h9 => h9.1 rfl))).tr (eqO.uI (fun h9 => h9.1 rfl))).tr (eqO.uI (fun h9 => h9.1 rfl))).tr (eqO.uI (fun h9 => h9.1 rfl))).tr (eqO.uI (fun h9 => h9.1 rfl))
end PCPN
