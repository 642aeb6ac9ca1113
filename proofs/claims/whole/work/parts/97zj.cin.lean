section PCIN
variable {C C1 C2 D : xC}
theorem tx0 {t b room : Nat} (h1 : cR C t 0 = some b) (h2 : cI C t 1 = 0) (h3 : (cK C b).2 = room) (h4 : room < 2 ^ 30) : TX C t b room [] := ⟨h1, h2, h3, h4, Nat.zero_le _, fun i hi => absurd hi (Nat.not_lt_zero _)⟩
theorem i_tx (hc : C.1 = 1) : ∃ D, g95 1 600 (cNew C 9) = some D ∧ (cR D 1 0 = some 2 ∧ cI D 1 1 = 0 ∧ (cK D 2).2 = 600) ∧ eqO (fun a => a < 1) C D ∧ D.1 = 3 ∧ D.2.1 = C.2.1 + 602 := by
  unfold g95
  simp only [bS]
  rw [lt_600, xmax_n (by decide), cNA_n (by decide)]
  simp only [bS]
  refine ⟨_, rfl, ⟨?_, ?_, ?_⟩, fun a ha => ?_, ?_, ?_⟩
  · simp [uI_I, uI_R, uI_K, uR_I, uR_R, uR_K, cNew, cAdd_I, cAdd_R, cAdd_K, cAdd_1, uI_1, uR_1, nI_0, hc]
  · simp [uI_I, uI_R, uI_K, uR_I, uR_R, uR_K, cNew, cAdd_I, cAdd_R, cAdd_K, cAdd_1, uI_1, uR_1, nI_0, hc]
  · simp [uI_I, uI_R, uI_K, uR_I, uR_R, uR_K, cNew, cAdd_I, cAdd_R, cAdd_K, cAdd_1, uI_1, uR_1, nI_0, hc]
  · have e0 : a ≠ 1 := by omega
    have e1 : a ≠ 2 := by omega
    refine ⟨fun k => ?_, fun k => ?_, ?_⟩ <;> simp [uI_I, uI_R, uI_K, uR_I, uR_R, uR_K, cNew, cAdd_I, cAdd_R, cAdd_K, cAdd_1, uI_1, uR_1, nI_0, hc, e0, e1]
  · simp [uI_I, uI_R, uI_K, uR_I, uR_R, uR_K, cNew, cAdd_I, cAdd_R, cAdd_K, cAdd_1, uI_1, uR_1, nI_0, hc]
  · simp [cAdd_2, uI_2, uR_2, cNew, show cN 0 = 10 from rfl, show cN 3 = 10 from rfl, show cN 4 = 3 from rfl, show cN 5 = 9 from rfl, show cN 7 = 7 from rfl, show cN 8 = 2 from rfl, show cN 9 = 2 from rfl, Nat.add_assoc]
theorem i_rg (hc : C.1 = 3) : ∃ D, g81 3 (cNew C 8) = some D ∧ (cR D 3 0 = some 4 ∧ (cK D 4).2 = 40 ∧ cI D 3 1 = 0) ∧ eqO (fun a => a < 3) C D ∧ D.1 = 5 ∧ D.2.1 = C.2.1 + 42 := by
  unfold g81
  simp only [bS]
  rw [lt_40, cNA_n (by decide)]
  simp only [bS]
  refine ⟨_, rfl, ⟨?_, ?_, ?_⟩, fun a ha => ?_, ?_, ?_⟩
  · simp [uI_I, uI_R, uI_K, uR_I, uR_R, uR_K, cNew, cAdd_I, cAdd_R, cAdd_K, cAdd_1, uI_1, uR_1, nI_0, hc]
  · simp [uI_I, uI_R, uI_K, uR_I, uR_R, uR_K, cNew, cAdd_I, cAdd_R, cAdd_K, cAdd_1, uI_1, uR_1, nI_0, hc]
  · simp [uI_I, uI_R, uI_K, uR_I, uR_R, uR_K, cNew, cAdd_I, cAdd_R, cAdd_K, cAdd_1, uI_1, uR_1, nI_0, hc]
  · have e0 : a ≠ 3 := by omega
    have e1 : a ≠ 4 := by omega
    refine ⟨fun k => ?_, fun k => ?_, ?_⟩ <;> simp [uI_I, uI_R, uI_K, uR_I, uR_R, uR_K, cNew, cAdd_I, cAdd_R, cAdd_K, cAdd_1, uI_1, uR_1, nI_0, hc, e0, e1]
  · simp [uI_I, uI_R, uI_K, uR_I, uR_R, uR_K, cNew, cAdd_I, cAdd_R, cAdd_K, cAdd_1, uI_1, uR_1, nI_0, hc]
  · simp [cAdd_2, uI_2, uR_2, cNew, show cN 0 = 10 from rfl, show cN 3 = 10 from rfl, show cN 4 = 3 from rfl, show cN 5 = 9 from rfl, show cN 7 = 7 from rfl, show cN 8 = 2 from rfl, show cN 9 = 2 from rfl, Nat.add_assoc]
theorem i_rd (hc : C.1 = 5) : ∃ D, g60 5 (cNew C 7) = some D ∧ (cR D 5 0 = some 6 ∧ cR D 6 0 = some 7 ∧ cI D 6 1 = 0 ∧ (cK D 7).2 = 10 ∧ cI D 5 5 = 0) ∧ eqO (fun a => a < 5) C D ∧ D.1 = 8 ∧ D.2.1 = C.2.1 + 19 := by
  unfold g60
  simp only [bS]
  rw [lt_10, g95_s (by decide)]
  simp only [bS]
  refine ⟨_, rfl, ⟨?_, ?_, ?_, ?_, ?_⟩, fun a ha => ?_, ?_, ?_⟩
  · simp [uI_I, uI_R, uI_K, uR_I, uR_R, uR_K, cNew, cAdd_I, cAdd_R, cAdd_K, cAdd_1, uI_1, uR_1, nI_0, hc]
  · simp [uI_I, uI_R, uI_K, uR_I, uR_R, uR_K, cNew, cAdd_I, cAdd_R, cAdd_K, cAdd_1, uI_1, uR_1, nI_0, hc]
  · simp [uI_I, uI_R, uI_K, uR_I, uR_R, uR_K, cNew, cAdd_I, cAdd_R, cAdd_K, cAdd_1, uI_1, uR_1, nI_0, hc]
  · simp [uI_I, uI_R, uI_K, uR_I, uR_R, uR_K, cNew, cAdd_I, cAdd_R, cAdd_K, cAdd_1, uI_1, uR_1, nI_0, hc]
  · simp [uI_I, uI_R, uI_K, uR_I, uR_R, uR_K, cNew, cAdd_I, cAdd_R, cAdd_K, cAdd_1, uI_1, uR_1, nI_0, hc]
  · have e0 : a ≠ 5 := by omega
    have e1 : a ≠ 6 := by omega
    have e2 : a ≠ 7 := by omega
    refine ⟨fun k => ?_, fun k => ?_, ?_⟩ <;> simp [uI_I, uI_R, uI_K, uR_I, uR_R, uR_K, cNew, cAdd_I, cAdd_R, cAdd_K, cAdd_1, uI_1, uR_1, nI_0, hc, e0, e1, e2]
  · simp [uI_I, uI_R, uI_K, uR_I, uR_R, uR_K, cNew, cAdd_I, cAdd_R, cAdd_K, cAdd_1, uI_1, uR_1, nI_0, hc]
  · simp [cAdd_2, uI_2, uR_2, cNew, show cN 0 = 10 from rfl, show cN 3 = 10 from rfl, show cN 4 = 3 from rfl, show cN 5 = 9 from rfl, show cN 7 = 7 from rfl, show cN 8 = 2 from rfl, show cN 9 = 2 from rfl, Nat.add_assoc]
theorem i_ly (hc : C.1 = 8) : ∃ D, g18 8 (cNew C 3) = some D ∧ (cR D 8 0 = some 9 ∧ (cK D 9).2 = 960 ∧ cR D 8 2 = some 10 ∧ cR D 10 0 = some 11 ∧ cI D 10 1 = 0 ∧ (cK D 11).2 = 1200 ∧ cR D 8 3 = some 12 ∧ (cK D 12).2 = 122 ∧ cR D 8 5 = some 13 ∧ (cK D 13).2 = 122 ∧ cR D 8 6 = some 14 ∧ (cK D 14).2 = 122) ∧ eqO (fun a => a < 8) C D ∧ D.1 = 15 ∧ D.2.1 = C.2.1 + 2538 := by
  unfold g18
  simp only [bS]
  rw [lt_960, cNA_n (by decide)]
  simp only [bS]
  rw [lt_1200, g95_s (by decide)]
  simp only [bS]
  rw [lt_122, cNA_n (by decide)]
  simp only [bS]
  rw [cNA_n (by decide)]
  simp only [bS]
  rw [cNA_n (by decide)]
  simp only [bS]
  refine ⟨_, rfl, ⟨?_, ?_, ?_, ?_, ?_, ?_, ?_, ?_, ?_, ?_, ?_, ?_⟩, fun a ha => ?_, ?_, ?_⟩
  · simp [uI_I, uI_R, uI_K, uR_I, uR_R, uR_K, cNew, cAdd_I, cAdd_R, cAdd_K, cAdd_1, uI_1, uR_1, nI_0, hc]
  · simp [uI_I, uI_R, uI_K, uR_I, uR_R, uR_K, cNew, cAdd_I, cAdd_R, cAdd_K, cAdd_1, uI_1, uR_1, nI_0, hc]
  · simp [uI_I, uI_R, uI_K, uR_I, uR_R, uR_K, cNew, cAdd_I, cAdd_R, cAdd_K, cAdd_1, uI_1, uR_1, nI_0, hc]
  · simp [uI_I, uI_R, uI_K, uR_I, uR_R, uR_K, cNew, cAdd_I, cAdd_R, cAdd_K, cAdd_1, uI_1, uR_1, nI_0, hc]
  · simp [uI_I, uI_R, uI_K, uR_I, uR_R, uR_K, cNew, cAdd_I, cAdd_R, cAdd_K, cAdd_1, uI_1, uR_1, nI_0, hc]
  · simp [uI_I, uI_R, uI_K, uR_I, uR_R, uR_K, cNew, cAdd_I, cAdd_R, cAdd_K, cAdd_1, uI_1, uR_1, nI_0, hc]
  · simp [uI_I, uI_R, uI_K, uR_I, uR_R, uR_K, cNew, cAdd_I, cAdd_R, cAdd_K, cAdd_1, uI_1, uR_1, nI_0, hc]
  · simp [uI_I, uI_R, uI_K, uR_I, uR_R, uR_K, cNew, cAdd_I, cAdd_R, cAdd_K, cAdd_1, uI_1, uR_1, nI_0, hc]
  · simp [uI_I, uI_R, uI_K, uR_I, uR_R, uR_K, cNew, cAdd_I, cAdd_R, cAdd_K, cAdd_1, uI_1, uR_1, nI_0, hc]
  · simp [uI_I, uI_R, uI_K, uR_I, uR_R, uR_K, cNew, cAdd_I, cAdd_R, cAdd_K, cAdd_1, uI_1, uR_1, nI_0, hc]
  · simp [uI_I, uI_R, uI_K, uR_I, uR_R, uR_K, cNew, cAdd_I, cAdd_R, cAdd_K, cAdd_1, uI_1, uR_1, nI_0, hc]
  · simp [uI_I, uI_R, uI_K, uR_I, uR_R, uR_K, cNew, cAdd_I, cAdd_R, cAdd_K, cAdd_1, uI_1, uR_1, nI_0, hc]
  · have e0 : a ≠ 8 := by omega
    have e1 : a ≠ 9 := by omega
    have e2 : a ≠ 10 := by omega
    have e3 : a ≠ 11 := by omega
    have e4 : a ≠ 12 := by omega
    have e5 : a ≠ 13 := by omega
    have e6 : a ≠ 14 := by omega
    refine ⟨fun k => ?_, fun k => ?_, ?_⟩ <;> simp [uI_I, uI_R, uI_K, uR_I, uR_R, uR_K, cNew, cAdd_I, cAdd_R, cAdd_K, cAdd_1, uI_1, uR_1, nI_0, hc, e0, e1, e2, e3, e4, e5, e6]
  · simp [uI_I, uI_R, uI_K, uR_I, uR_R, uR_K, cNew, cAdd_I, cAdd_R, cAdd_K, cAdd_1, uI_1, uR_1, nI_0, hc]
  · simp [cAdd_2, uI_2, uR_2, cNew, show cN 0 = 10 from rfl, show cN 3 = 10 from rfl, show cN 4 = 3 from rfl, show cN 5 = 9 from rfl, show cN 7 = 7 from rfl, show cN 8 = 2 from rfl, show cN 9 = 2 from rfl, Nat.add_assoc]
theorem i_nt (hc : C.1 = 15) : ∃ D, g40 15 (cNew C 4) = some D ∧ (cR D 15 0 = some 16 ∧ cR D 15 1 = some 17 ∧ (cK D 16).2 = 216 ∧ (cK D 17).2 = 216 ∧ cI D 15 2 = 0) ∧ eqO (fun a => a < 15) C D ∧ D.1 = 18 ∧ D.2.1 = C.2.1 + 435 := by
  unfold g40
  simp only [bS]
  rw [show (216 : Int32) = nI 216 from rfl, cNA_n (by decide)]
  simp only [bS]
  rw [cNA_n (by decide)]
  simp only [bS]
  refine ⟨_, rfl, ⟨?_, ?_, ?_, ?_, ?_⟩, fun a ha => ?_, ?_, ?_⟩
  · simp [uI_I, uI_R, uI_K, uR_I, uR_R, uR_K, cNew, cAdd_I, cAdd_R, cAdd_K, cAdd_1, uI_1, uR_1, nI_0, hc]
  · simp [uI_I, uI_R, uI_K, uR_I, uR_R, uR_K, cNew, cAdd_I, cAdd_R, cAdd_K, cAdd_1, uI_1, uR_1, nI_0, hc]
  · simp [uI_I, uI_R, uI_K, uR_I, uR_R, uR_K, cNew, cAdd_I, cAdd_R, cAdd_K, cAdd_1, uI_1, uR_1, nI_0, hc]
  · simp [uI_I, uI_R, uI_K, uR_I, uR_R, uR_K, cNew, cAdd_I, cAdd_R, cAdd_K, cAdd_1, uI_1, uR_1, nI_0, hc]
  · simp [uI_I, uI_R, uI_K, uR_I, uR_R, uR_K, cNew, cAdd_I, cAdd_R, cAdd_K, cAdd_1, uI_1, uR_1, nI_0, hc]
  · have e0 : a ≠ 15 := by omega
    have e1 : a ≠ 16 := by omega
    have e2 : a ≠ 17 := by omega
    refine ⟨fun k => ?_, fun k => ?_, ?_⟩ <;> simp [uI_I, uI_R, uI_K, uR_I, uR_R, uR_K, cNew, cAdd_I, cAdd_R, cAdd_K, cAdd_1, uI_1, uR_1, nI_0, hc, e0, e1, e2]
  · simp [uI_I, uI_R, uI_K, uR_I, uR_R, uR_K, cNew, cAdd_I, cAdd_R, cAdd_K, cAdd_1, uI_1, uR_1, nI_0, hc]
  · simp [cAdd_2, uI_2, uR_2, cNew, show cN 0 = 10 from rfl, show cN 3 = 10 from rfl, show cN 4 = 3 from rfl, show cN 5 = 9 from rfl, show cN 7 = 7 from rfl, show cN 8 = 2 from rfl, show cN 9 = 2 from rfl, Nat.add_assoc]
theorem i_p168 (hc : C.1 = 168) : ∃ D, g50 168 (cNew C 5) = some D ∧ (cR D 168 0 = some 169 ∧ cR D 169 0 = some 170 ∧ cI D 169 1 = 0 ∧ (cK D 170).2 = 4000 ∧ cR D 168 1 = some 171 ∧ (cK D 171).2 = 4000 ∧ cR D 168 2 = some 172 ∧ (cK D 172).2 = 40 ∧ cI D 168 3 = 0 ∧ cI D 168 4 = 0 ∧ cI D 168 5 = 0 ∧ cI D 168 6 = 0) ∧ eqO (fun a => a < 168) C D ∧ D.1 = 173 ∧ D.2.1 = C.2.1 + 8051 := by
  unfold g50
  simp only [bS]
  rw [lt_4000, g95_s (by decide)]
  simp only [bS]
  rw [cNA_n (by decide)]
  simp only [bS]
  rw [lt_40, cNA_n (by decide)]
  simp only [bS]
  refine ⟨_, rfl, ⟨?_, ?_, ?_, ?_, ?_, ?_, ?_, ?_, ?_, ?_, ?_, ?_⟩, fun a ha => ?_, ?_, ?_⟩
  · simp [uI_I, uI_R, uI_K, uR_I, uR_R, uR_K, cNew, cAdd_I, cAdd_R, cAdd_K, cAdd_1, uI_1, uR_1, nI_0, hc]
  · simp [uI_I, uI_R, uI_K, uR_I, uR_R, uR_K, cNew, cAdd_I, cAdd_R, cAdd_K, cAdd_1, uI_1, uR_1, nI_0, hc]
  · simp [uI_I, uI_R, uI_K, uR_I, uR_R, uR_K, cNew, cAdd_I, cAdd_R, cAdd_K, cAdd_1, uI_1, uR_1, nI_0, hc]
  · simp [uI_I, uI_R, uI_K, uR_I, uR_R, uR_K, cNew, cAdd_I, cAdd_R, cAdd_K, cAdd_1, uI_1, uR_1, nI_0, hc]
  · simp [uI_I, uI_R, uI_K, uR_I, uR_R, uR_K, cNew, cAdd_I, cAdd_R, cAdd_K, cAdd_1, uI_1, uR_1, nI_0, hc]
  · simp [uI_I, uI_R, uI_K, uR_I, uR_R, uR_K, cNew, cAdd_I, cAdd_R, cAdd_K, cAdd_1, uI_1, uR_1, nI_0, hc]
  · simp [uI_I, uI_R, uI_K, uR_I, uR_R, uR_K, cNew, cAdd_I, cAdd_R, cAdd_K, cAdd_1, uI_1, uR_1, nI_0, hc]
  · simp [uI_I, uI_R, uI_K, uR_I, uR_R, uR_K, cNew, cAdd_I, cAdd_R, cAdd_K, cAdd_1, uI_1, uR_1, nI_0, hc]
  · simp [uI_I, uI_R, uI_K, uR_I, uR_R, uR_K, cNew, cAdd_I, cAdd_R, cAdd_K, cAdd_1, uI_1, uR_1, nI_0, hc]
  · simp [uI_I, uI_R, uI_K, uR_I, uR_R, uR_K, cNew, cAdd_I, cAdd_R, cAdd_K, cAdd_1, uI_1, uR_1, nI_0, hc]
  · simp [uI_I, uI_R, uI_K, uR_I, uR_R, uR_K, cNew, cAdd_I, cAdd_R, cAdd_K, cAdd_1, uI_1, uR_1, nI_0, hc]
  · simp [uI_I, uI_R, uI_K, uR_I, uR_R, uR_K, cNew, cAdd_I, cAdd_R, cAdd_K, cAdd_1, uI_1, uR_1, nI_0, hc]
  · have e0 : a ≠ 168 := by omega
    have e1 : a ≠ 169 := by omega
    have e2 : a ≠ 170 := by omega
    have e3 : a ≠ 171 := by omega
    have e4 : a ≠ 172 := by omega
    refine ⟨fun k => ?_, fun k => ?_, ?_⟩ <;> simp [uI_I, uI_R, uI_K, uR_I, uR_R, uR_K, cNew, cAdd_I, cAdd_R, cAdd_K, cAdd_1, uI_1, uR_1, nI_0, hc, e0, e1, e2, e3, e4]
  · simp [uI_I, uI_R, uI_K, uR_I, uR_R, uR_K, cNew, cAdd_I, cAdd_R, cAdd_K, cAdd_1, uI_1, uR_1, nI_0, hc]
  · simp [cAdd_2, uI_2, uR_2, cNew, show cN 0 = 10 from rfl, show cN 3 = 10 from rfl, show cN 4 = 3 from rfl, show cN 5 = 9 from rfl, show cN 7 = 7 from rfl, show cN 8 = 2 from rfl, show cN 9 = 2 from rfl, Nat.add_assoc]
theorem i_p173 (hc : C.1 = 173) : ∃ D, g50 173 (cNew C 5) = some D ∧ (cR D 173 0 = some 174 ∧ cR D 174 0 = some 175 ∧ cI D 174 1 = 0 ∧ (cK D 175).2 = 4000 ∧ cR D 173 1 = some 176 ∧ (cK D 176).2 = 4000 ∧ cR D 173 2 = some 177 ∧ (cK D 177).2 = 40 ∧ cI D 173 3 = 0 ∧ cI D 173 4 = 0 ∧ cI D 173 5 = 0 ∧ cI D 173 6 = 0) ∧ eqO (fun a => a < 173) C D ∧ D.1 = 178 ∧ D.2.1 = C.2.1 + 8051 := by
  unfold g50
  simp only [bS]
  rw [lt_4000, g95_s (by decide)]
  simp only [bS]
  rw [cNA_n (by decide)]
  simp only [bS]
  rw [lt_40, cNA_n (by decide)]
  simp only [bS]
  refine ⟨_, rfl, ⟨?_, ?_, ?_, ?_, ?_, ?_, ?_, ?_, ?_, ?_, ?_, ?_⟩, fun a ha => ?_, ?_, ?_⟩
  · simp [uI_I, uI_R, uI_K, uR_I, uR_R, uR_K, cNew, cAdd_I, cAdd_R, cAdd_K, cAdd_1, uI_1, uR_1, nI_0, hc]
  · simp [uI_I, uI_R, uI_K, uR_I, uR_R, uR_K, cNew, cAdd_I, cAdd_R, cAdd_K, cAdd_1, uI_1, uR_1, nI_0, hc]
  · simp [uI_I, uI_R, uI_K, uR_I, uR_R, uR_K, cNew, cAdd_I, cAdd_R, cAdd_K, cAdd_1, uI_1, uR_1, nI_0, hc]
  · simp [uI_I, uI_R, uI_K, uR_I, uR_R, uR_K, cNew, cAdd_I, cAdd_R, cAdd_K, cAdd_1, uI_1, uR_1, nI_0, hc]
  · simp [uI_I, uI_R, uI_K, uR_I, uR_R, uR_K, cNew, cAdd_I, cAdd_R, cAdd_K, cAdd_1, uI_1, uR_1, nI_0, hc]
  · simp [uI_I, uI_R, uI_K, uR_I, uR_R, uR_K, cNew, cAdd_I, cAdd_R, cAdd_K, cAdd_1, uI_1, uR_1, nI_0, hc]
  · simp [uI_I, uI_R, uI_K, uR_I, uR_R, uR_K, cNew, cAdd_I, cAdd_R, cAdd_K, cAdd_1, uI_1, uR_1, nI_0, hc]
  · simp [uI_I, uI_R, uI_K, uR_I, uR_R, uR_K, cNew, cAdd_I, cAdd_R, cAdd_K, cAdd_1, uI_1, uR_1, nI_0, hc]
  · simp [uI_I, uI_R, uI_K, uR_I, uR_R, uR_K, cNew, cAdd_I, cAdd_R, cAdd_K, cAdd_1, uI_1, uR_1, nI_0, hc]
  · simp [uI_I, uI_R, uI_K, uR_I, uR_R, uR_K, cNew, cAdd_I, cAdd_R, cAdd_K, cAdd_1, uI_1, uR_1, nI_0, hc]
  · simp [uI_I, uI_R, uI_K, uR_I, uR_R, uR_K, cNew, cAdd_I, cAdd_R, cAdd_K, cAdd_1, uI_1, uR_1, nI_0, hc]
  · simp [uI_I, uI_R, uI_K, uR_I, uR_R, uR_K, cNew, cAdd_I, cAdd_R, cAdd_K, cAdd_1, uI_1, uR_1, nI_0, hc]
  · have e0 : a ≠ 173 := by omega
    have e1 : a ≠ 174 := by omega
    have e2 : a ≠ 175 := by omega
    have e3 : a ≠ 176 := by omega
    have e4 : a ≠ 177 := by omega
    refine ⟨fun k => ?_, fun k => ?_, ?_⟩ <;> simp [uI_I, uI_R, uI_K, uR_I, uR_R, uR_K, cNew, cAdd_I, cAdd_R, cAdd_K, cAdd_1, uI_1, uR_1, nI_0, hc, e0, e1, e2, e3, e4]
  · simp [uI_I, uI_R, uI_K, uR_I, uR_R, uR_K, cNew, cAdd_I, cAdd_R, cAdd_K, cAdd_1, uI_1, uR_1, nI_0, hc]
  · simp [cAdd_2, uI_2, uR_2, cNew, show cN 0 = 10 from rfl, show cN 3 = 10 from rfl, show cN 4 = 3 from rfl, show cN 5 = 9 from rfl, show cN 7 = 7 from rfl, show cN 8 = 2 from rfl, show cN 9 = 2 from rfl, Nat.add_assoc]
/-- a new object -/
def iFa (D : xC) : Prop := cTop D 18 168 173 ∧ TX D 1 2 600 [] ∧ (cR D 3 0 = some 4 ∧ (cK D 4).2 = 40 ∧ cI D 3 1 = 0) ∧ cI D 5 5 = 0 ∧ (cPg D 168 (fun _ => 0) ([], [], [], 0, 0) ∧ cPgS D 168 ∧ cPgS D 173) ∧ cNt D [] ∧ cAux D ∧ cSh D 18 ∧ TX D 19 20 600 []
theorem g111_s (hc : C.1 = 1) : ∃ D, g111 0 C = some D ∧ iFa D ∧ D.1 = 178 ∧ D.2.1 ≤ C.2.1 + 30000 := by
  unfold g111
  simp only [bS]
  obtain ⟨D1, d1, f1, e1, n1, s1⟩ := i_tx (C := C) hc
  rw [hc, d1]
  simp only [bS]
  obtain ⟨E1, hE1⟩ : ∃ X, X = uR D1 0 0 (some 1) := ⟨_, rfl⟩
  rw [← hE1]
  have z1 : ∀ j, cR E1 0 j = if j = 0 then some 1 else cR C 0 j := fun j => by
    rw [hE1]
    by_cases hj : j = 0
    · rw [if_pos hj, hj, uR_e]
    · rw [if_neg hj, uR_n (by omega)]
      exact (e1 0 (by decide)).2.1 j
  have h1 : E1.1 = 3 := by rw [hE1]; exact n1
  have t1 : E1.2.1 = D1.2.1 := by rw [hE1]; rfl
  have o1 : eqO (fun a => a ≠ 0) D1 E1 := by rw [hE1]; exact eqO.uR (fun h9 => h9 rfl)
  clear hE1
  obtain ⟨D2, d2, f2, e2, n2, s2⟩ := i_rg (C := E1) h1
  rw [h1, d2]
  simp only [bS]
  obtain ⟨E2, hE2⟩ : ∃ X, X = uR D2 0 1 (some 3) := ⟨_, rfl⟩
  rw [← hE2]
  have z2 : ∀ j, cR E2 0 j = if j = 1 then some 3 else cR E1 0 j := fun j => by
    rw [hE2]
    by_cases hj : j = 1
    · rw [if_pos hj, hj, uR_e]
    · rw [if_neg hj, uR_n (by omega)]
      exact (e2 0 (by decide)).2.1 j
  have h2 : E2.1 = 5 := by rw [hE2]; exact n2
  have t2 : E2.2.1 = D2.2.1 := by rw [hE2]; rfl
  have o2 : eqO (fun a => a ≠ 0) D2 E2 := by rw [hE2]; exact eqO.uR (fun h9 => h9 rfl)
  clear hE2
  obtain ⟨D3, d3, f3, e3, n3, s3⟩ := i_rd (C := E2) h2
  rw [h2, d3]
  simp only [bS]
  obtain ⟨E3, hE3⟩ : ∃ X, X = uR D3 0 2 (some 5) := ⟨_, rfl⟩
  rw [← hE3]
  have z3 : ∀ j, cR E3 0 j = if j = 2 then some 5 else cR E2 0 j := fun j => by
    rw [hE3]
    by_cases hj : j = 2
    · rw [if_pos hj, hj, uR_e]
    · rw [if_neg hj, uR_n (by omega)]
      exact (e3 0 (by decide)).2.1 j
  have h3 : E3.1 = 8 := by rw [hE3]; exact n3
  have t3 : E3.2.1 = D3.2.1 := by rw [hE3]; rfl
  have o3 : eqO (fun a => a ≠ 0) D3 E3 := by rw [hE3]; exact eqO.uR (fun h9 => h9 rfl)
  clear hE3
  obtain ⟨D4, d4, f4, e4, n4, s4⟩ := i_ly (C := E3) h3
  rw [h3, d4]
  simp only [bS]
  obtain ⟨E4, hE4⟩ : ∃ X, X = uR D4 0 3 (some 8) := ⟨_, rfl⟩
  rw [← hE4]
  have z4 : ∀ j, cR E4 0 j = if j = 3 then some 8 else cR E3 0 j := fun j => by
    rw [hE4]
    by_cases hj : j = 3
    · rw [if_pos hj, hj, uR_e]
    · rw [if_neg hj, uR_n (by omega)]
      exact (e4 0 (by decide)).2.1 j
  have h4 : E4.1 = 15 := by rw [hE4]; exact n4
  have t4 : E4.2.1 = D4.2.1 := by rw [hE4]; rfl
  have o4 : eqO (fun a => a ≠ 0) D4 E4 := by rw [hE4]; exact eqO.uR (fun h9 => h9 rfl)
  clear hE4
  obtain ⟨D5, d5, f5, e5, n5, s5⟩ := i_nt (C := E4) h4
  rw [h4, d5]
  simp only [bS]
  obtain ⟨E5, hE5⟩ : ∃ X, X = uR D5 0 4 (some 15) := ⟨_, rfl⟩
  rw [← hE5]
  have z5 : ∀ j, cR E5 0 j = if j = 4 then some 15 else cR E4 0 j := fun j => by
    rw [hE5]
    by_cases hj : j = 4
    · rw [if_pos hj, hj, uR_e]
    · rw [if_neg hj, uR_n (by omega)]
      exact (e5 0 (by decide)).2.1 j
  have h5 : E5.1 = 18 := by rw [hE5]; exact n5
  have t5 : E5.2.1 = D5.2.1 := by rw [hE5]; rfl
  have o5 : eqO (fun a => a ≠ 0) D5 E5 := by rw [hE5]; exact eqO.uR (fun h9 => h9 rfl)
  clear hE5
  obtain ⟨D6, d6, f6, ft6, e6, n6, s6⟩ := g3_s (C := E5) (c := 18) h5
  rw [h5, d6]
  simp only [bS]
  obtain ⟨E6, hE6⟩ : ∃ X, X = uR D6 0 5 (some 18) := ⟨_, rfl⟩
  rw [← hE6]
  have z6 : ∀ j, cR E6 0 j = if j = 5 then some 18 else cR E5 0 j := fun j => by
    rw [hE6]
    by_cases hj : j = 5
    · rw [if_pos hj, hj, uR_e]
    · rw [if_neg hj, uR_n (by omega)]
      exact (e6 0 (by decide)).2.1 j
  have h6 : E6.1 = 168 := by rw [hE6]; exact n6
  have t6 : E6.2.1 = D6.2.1 := by rw [hE6]; rfl
  have o6 : eqO (fun a => a ≠ 0) D6 E6 := by rw [hE6]; exact eqO.uR (fun h9 => h9 rfl)
  clear hE6
  obtain ⟨D7, d7, f7, e7, n7, s7⟩ := i_p168 (C := E6) h6
  rw [h6, d7]
  simp only [bS]
  obtain ⟨E7, hE7⟩ : ∃ X, X = uR D7 0 6 (some 168) := ⟨_, rfl⟩
  rw [← hE7]
  have z7 : ∀ j, cR E7 0 j = if j = 6 then some 168 else cR E6 0 j := fun j => by
    rw [hE7]
    by_cases hj : j = 6
    · rw [if_pos hj, hj, uR_e]
    · rw [if_neg hj, uR_n (by omega)]
      exact (e7 0 (by decide)).2.1 j
  have h7 : E7.1 = 173 := by rw [hE7]; exact n7
  have t7 : E7.2.1 = D7.2.1 := by rw [hE7]; rfl
  have o7 : eqO (fun a => a ≠ 0) D7 E7 := by rw [hE7]; exact eqO.uR (fun h9 => h9 rfl)
  clear hE7
  obtain ⟨D8, d8, f8, e8, n8, s8⟩ := i_p173 (C := E7) h7
  rw [h7, d8]
  simp only [bS]
  obtain ⟨E8, hE8⟩ : ∃ X, X = uR D8 0 7 (some 173) := ⟨_, rfl⟩
  rw [← hE8]
  have z8 : ∀ j, cR E8 0 j = if j = 7 then some 173 else cR E7 0 j := fun j => by
    rw [hE8]
    by_cases hj : j = 7
    · rw [if_pos hj, hj, uR_e]
    · rw [if_neg hj, uR_n (by omega)]
      exact (e8 0 (by decide)).2.1 j
  have h8 : E8.1 = 178 := by rw [hE8]; exact n8
  have t8 : E8.2.1 = D8.2.1 := by rw [hE8]; rfl
  have o8 : eqO (fun a => a ≠ 0) D8 E8 := by rw [hE8]; exact eqO.uR (fun h9 => h9 rfl)
  clear hE8
  have k8 : eqO (fun a => 0 < a ∧ a < 178) D8 E8 := o8.mono fun a ha => by omega
  have k7 : eqO (fun a => 0 < a ∧ a < 173) D7 E8 := ((o7.mono fun a ha => by omega).tr (e8.mono fun a ha => by omega)).tr (k8.mono fun a ha => by omega)
  have k6 : eqO (fun a => 0 < a ∧ a < 168) D6 E8 := ((o6.mono fun a ha => by omega).tr (e7.mono fun a ha => by omega)).tr (k7.mono fun a ha => by omega)
  have k5 : eqO (fun a => 0 < a ∧ a < 18) D5 E8 := ((o5.mono fun a ha => by omega).tr (e6.mono fun a ha => by omega)).tr (k6.mono fun a ha => by omega)
  have k4 : eqO (fun a => 0 < a ∧ a < 15) D4 E8 := ((o4.mono fun a ha => by omega).tr (e5.mono fun a ha => by omega)).tr (k5.mono fun a ha => by omega)
  have k3 : eqO (fun a => 0 < a ∧ a < 8) D3 E8 := ((o3.mono fun a ha => by omega).tr (e4.mono fun a ha => by omega)).tr (k4.mono fun a ha => by omega)
  have k2 : eqO (fun a => 0 < a ∧ a < 5) D2 E8 := ((o2.mono fun a ha => by omega).tr (e3.mono fun a ha => by omega)).tr (k3.mono fun a ha => by omega)
  have k1 : eqO (fun a => 0 < a ∧ a < 3) D1 E8 := ((o1.mono fun a ha => by omega).tr (e2.mono fun a ha => by omega)).tr (k2.mono fun a ha => by omega)
  refine ⟨E8, rfl, ?_, h8, by omega⟩
  have zz : ∀ j, cR E8 0 j = if j = 7 then some 173 else if j = 6 then some 168 else if j = 5 then some 18 else if j = 4 then some 15 else if j = 3 then some 8 else if j = 2 then some 5 else if j = 1 then some 3 else if j = 0 then some 1 else cR C 0 j := fun j => by rw [z8, z7, z6, z5, z4, z3, z2, z1]
  obtain ⟨f11, f12, f13⟩ := f1
  obtain ⟨f21, f22, f23⟩ := f2
  obtain ⟨f31, f32, f33, f34, f35⟩ := f3
  obtain ⟨f41, f42, f43, f44, f45, f46, f47, f48, f49, f4a, f4b, f4c⟩ := f4
  obtain ⟨f51, f52, f53, f54, f55⟩ := f5
  obtain ⟨f71, f72, f73, f74, f75, f76, f77, f78, f79, f7a, f7b, f7c⟩ := f7
  obtain ⟨f81, f82, f83, f84, f85, f86, f87, f88, f89, f8a, f8b, f8c⟩ := f8
  have r1 : cTop E8 18 168 173 := ⟨by rw [zz]; rfl, by rw [zz]; rfl, by rw [zz]; rfl, by rw [zz]; rfl, by rw [zz]; rfl, by rw [zz]; rfl, by rw [zz]; rfl, by rw [zz]; rfl⟩
  have x7 : TX D7 169 170 4000 [] := tx0 f72 f73 f74 (by decide)
  have p7 : cPgS D7 168 := ⟨f71, f75, f76, f77, f78, [], x7⟩
  have q7 : cPg D7 168 (fun _ => 0) ([], [], [], 0, 0) := ⟨x7, ⟨f79, fun i hi => absurd hi (Nat.not_lt_zero _)⟩, ⟨f7a, fun i hi => absurd hi (Nat.not_lt_zero _)⟩, f7b, f7c⟩
  have p8 : cPgS D8 173 := ⟨f81, f85, f86, f87, f88, [], tx0 f82 f83 f84 (by decide)⟩
  have nt : cNt D5 [] := ⟨f51, f52, f53, f54, f55, fun i hi => absurd hi (Nat.not_lt_zero _)⟩
  have x3 : TX D3 6 7 10 [] := tx0 f32 f33 f34 (by decide)
  have x4 : TX D4 10 11 1200 [] := tx0 f44 f45 f46 (by decide)
  refine ⟨r1, (tx0 f11 f12 f13 (by decide)).kp k1 (by decide) (by decide), ⟨by rw [(k2 3 (by decide)).2.1]; exact f21, by rw [(k2 4 (by decide)).2.2]; exact f22, by rw [(k2 3 (by decide)).1]; exact f23⟩, by rw [(k3 5 (by decide)).1]; exact f35, ⟨q7.kp k7 fun i hi => by omega, p7.kp k7 fun i hi => by omega, p8.kp k8 fun i hi => by omega⟩, nt.kp k5 (by decide), ⟨⟨by rw [(k3 5 (by decide)).2.1]; exact f31, [], x3.kp k3 (by decide) (by decide)⟩, by rw [(k4 8 (by decide)).2.1]; exact f41, by rw [(k4 9 (by decide)).2.2]; exact f42, ⟨by rw [(k4 8 (by decide)).2.1]; exact f43, [], x4.kp k4 (by decide) (by decide)⟩, by rw [(k4 8 (by decide)).2.1]; exact f47, by rw [(k4 12 (by decide)).2.2]; exact f48, by rw [(k4 8 (by decide)).2.1]; exact f49, by rw [(k4 13 (by decide)).2.2]; exact f4a, by rw [(k4 8 (by decide)).2.1]; exact f4b, by rw [(k4 14 (by decide)).2.2]; exact f4c⟩, f6.kp k6 fun i hi => by omega, ft6.kp k6 (by decide) (by decide)⟩
end PCIN
