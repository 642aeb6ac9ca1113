section PC31
variable {C C' C1 C2 : xC} {c : Ck}
/-- the layout's own cells -/
def lyS (C : xC) : Prop := cR C 8 2 = some 10 ∧ cR C 8 3 = some 12 ∧ (cK C 12).2 = 122
/-- the chunks so far -/
def ckC (C : xC) (c : Ck) : Prop := TX C 10 11 1200 c.1 ∧ cI C 8 4 = nI c.2.1.length ∧ ∀ i, i < c.2.1.length → cI C 12 i = nI (c.2.1.getD i 0)
/-- the frame of cutting in chunks -/
def lyE (C C' : xC) : Prop := eqO (fun a => a ∉ [8, 10, 11, 12]) C C' ∧ (∀ k, cR C' 8 k = cR C 8 k) ∧ (∀ k, k ≠ 4 → cI C' 8 k = cI C 8 k) ∧ (cK C' 12 = cK C 12 ∧ cK C' 8 = cK C 8) ∧ sm C C'
theorem lyE.rfl' : lyE C C := ⟨eqO.rfl', fun _ => rfl, fun _ _ => rfl, ⟨rfl, rfl⟩, sm.rfl'⟩
theorem lyE.tr (a : lyE C C1) (b : lyE C1 C2) : lyE C C2 := ⟨a.1.tr b.1, fun k => (b.2.1 k).trans (a.2.1 k), fun k hk => (b.2.2.1 k hk).trans (a.2.2.1 k hk), ⟨b.2.2.2.1.1.trans a.2.2.2.1.1, b.2.2.2.1.2.trans a.2.2.2.1.2⟩, a.2.2.2.2.tr b.2.2.2.2⟩
theorem lyS.kp (S : lyS C) (E : lyE C C') : lyS C' := ⟨by rw [E.2.1]; exact S.1, by rw [E.2.1]; exact S.2.1, by rw [E.2.2.2.1.1]; exact S.2.2⟩
theorem lyE.t (E : eqO (fun a => a ≠ 10 ∧ a ≠ 11) C C') (s : sm C C') : lyE C C' := ⟨E.mono fun a ha => by simp at ha; omega, (E 8 (by decide)).2.1, fun k _ => (E 8 (by decide)).1 k, ⟨(E 12 (by decide)).2.2, (E 8 (by decide)).2.2⟩, s⟩
/-- a chunk begins -/
theorem g31_s (S : lyS C) (K : ckC C c) (h : c.2.1.length < 121) : ∃ C', g31 8 C = some C' ∧ ckC C' (c.1, c.2.1 ++ [c.1.length], c.2.2) ∧ lyE C C' := by
  obtain ⟨t, k1, k2⟩ := K
  unfold g31 gj31_40
  rw [S.2.1]
  simp only [bS]
  rw [S.2.2, k1, nI_1, if_neg (show ¬ Int32.ofNat 122 ≤ nI (c.2.1.length + 1) from nI_ge (b := 122) (by omega) (by decide)), S.1]
  simp only [bS]
  rw [cSt_n (n := 122) (by omega) S.2.2 (by decide)]
  simp only [bS]
  rw [t.2.1, uI_n (by omega), k1, nI_1]
  refine ⟨_, rfl, ⟨t.kp (P := fun a => a ≠ 12 ∧ a ≠ 8) ((eqO.uI (fun h9 => h9.1 rfl)).tr (eqO.uI (fun h9 => h9.2 rfl))) (by decide) (by decide), by rw [uI_e]; simp, fun i hi => ?_⟩, (eqO.uI (fun h9 => h9 (by simp))).tr (eqO.uI (fun h9 => h9 (by simp))), fun _ => rfl, fun k hk => by rw [uI_n (by omega), uI_n (by omega)], ⟨rfl, rfl⟩, rfl, rfl⟩
  have hi : i < c.2.1.length + 1 := by simpa using hi
  show _ = nI ((c.2.1 ++ [c.1.length]).getD i 0)
  rw [gD_app hi, uI_n (by omega)]
  by_cases h9 : i = c.2.1.length
  · rw [if_pos h9, h9, uI_e]
  · rw [if_neg h9, uI_n (by omega)]
    exact k2 i (by omega)
/-- the chunk is closed -/
theorem g32_s (S : lyS C) (K : ckC C c) (h : c.2.1.length < 122) : ∃ C', g32 8 C = some C' ∧ ckC C' c ∧ cI C' 12 c.2.1.length = nI c.1.length ∧ lyE C C' := by
  obtain ⟨t, k1, k2⟩ := K
  unfold g32 gj32_28
  rw [S.2.1]
  simp only [bS]
  rw [S.2.2, k1, if_neg (show ¬ Int32.ofNat 122 ≤ nI c.2.1.length from nI_ge (b := 122) (by omega) (by decide)), S.1]
  simp only [bS]
  rw [cSt_n (n := 122) (by omega) S.2.2 (by decide)]
  simp only [bS]
  rw [t.2.1]
  exact ⟨_, rfl, ⟨t.kp (P := fun a => a ≠ 12) (eqO.uI (fun h9 => h9 rfl)) (by decide) (by decide), by rw [uI_n (by omega)]; exact k1, fun i hi => by rw [uI_n (by omega)]; exact k2 i hi⟩, uI_e, eqO.uI (fun h9 => h9 (by simp)), fun _ => rfl, fun k hk => by rw [uI_n (by omega)], ⟨rfl, rfl⟩, rfl, rfl⟩
/-- where a chunk begins -/
theorem g34_s (S : lyS C) (K : ckC C c) (h : c.2.1.length < 122) (hcl : cI C 12 c.2.1.length = nI c.1.length) {i : Nat} (hi : i ≤ c.2.1.length) : g34 8 (nI i) C = some (nI (cks0 c i), C) := by
  obtain ⟨t, k1, k2⟩ := K
  unfold g34 gj34_28 cks0
  rw [if_neg (show ¬ nI i < 0 from nI_pos (by omega)), k1, if_pos (nI_le hi (by omega)), S.2.1]
  simp only [bS]
  rw [show cLd C 12 (nI i) = some (cI C 12 i) from cLd_n (n := 122) (by omega) S.2.2 (by decide)]
  simp only [bS]
  by_cases h9 : i = c.2.1.length
  · rw [h9, hcl, List.getD_eq_getElem?_getD, List.getElem?_eq_none (Nat.le_refl _)]
    rfl
  · rw [k2 i (by omega)]
    congr 2
    rw [List.getD_eq_getElem?_getD, List.getD_eq_getElem?_getD, List.getElem?_eq_getElem (by omega)]
    rfl
end PC31
