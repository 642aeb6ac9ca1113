section PCPW
variable {C C' C1 C2 : xC} {p : Nat} {o : Ou} {l : List Nat}
/-- the cells of a page -/
def pgS (C : xC) (p : Nat) : Prop := cR C p 0 = some (p + 1) ∧ cR C p 1 = some (p + 3) ∧ (cK C (p + 3)).2 = 4000
/-- a page being written: lines so far, the line that is open; or it is full -/
def pgW (C : xC) (p : Nat) (o : Ou) (l : List Nat) : Prop := (pgS C p ∧ o.2.1.length ≤ o.1.length) ∧ ((TX C (p + 1) (p + 2) 4000 (o.1 ++ l) ∧ (cI C p 3 = nI o.2.1.length ∧ ∀ i, i < o.2.1.length → cI C (p + 3) i = nI (o.2.1.getD i 0)) ∧ cI C p 6 = nI o.2.2 ∧ cI C p 7 = nI o.1.length ∧ cI C p 8 = 0) ∨ (cI C p 8 = 1 ∧ (∃ bs, TX C (p + 1) (p + 2) 4000 bs) ∧ (∃ n, n ≤ 4000 ∧ cI C p 3 = nI n) ∧ 4000 < (o.1 ++ l).length))
/-- the frame of writing -/
def pwE (p : Nat) (C C' : xC) : Prop := eqO (fun a => a ≠ p ∧ a ≠ p + 1 ∧ a ≠ p + 2 ∧ a ≠ p + 3) C C' ∧ (∀ k, cR C' p k = cR C p k) ∧ cI C' p 4 = cI C p 4 ∧ cI C' p 5 = cI C p 5 ∧ (cK C' p = cK C p ∧ cK C' (p + 3) = cK C (p + 3)) ∧ sm C C'
theorem pwE.rfl' : pwE p C C := ⟨eqO.rfl', fun _ => rfl, rfl, rfl, ⟨rfl, rfl⟩, sm.rfl'⟩
theorem pwE.tr (a : pwE p C C1) (b : pwE p C1 C2) : pwE p C C2 := ⟨a.1.tr b.1, fun k => (b.2.1 k).trans (a.2.1 k), b.2.2.1.trans a.2.2.1, b.2.2.2.1.trans a.2.2.2.1, ⟨b.2.2.2.2.1.1.trans a.2.2.2.2.1.1, b.2.2.2.2.1.2.trans a.2.2.2.2.1.2⟩, a.2.2.2.2.2.tr b.2.2.2.2.2⟩
theorem pwE.u {k : Nat} {v : Int32} (h : k ≠ 4 ∧ k ≠ 5) : pwE p C (uI C p k v) := ⟨eqO.uI (fun h9 => h9.1 rfl), fun _ => rfl, by rw [uI_n (by omega)], by rw [uI_n (by omega)], ⟨rfl, rfl⟩, rfl, rfl⟩
theorem pgS.u {k : Nat} {v : Int32} (h : pgS C p) : pgS (uI C p k v) p := h
theorem pwE.t (E : eqO (fun a => a ≠ p + 1 ∧ a ≠ p + 2) C C') (s : sm C C') : pwE p C C' := by
  have e := E p (by omega)
  exact ⟨E.mono fun a ha => ⟨ha.2.1, ha.2.2.1⟩, e.2.1, e.1 4, e.1 5, ⟨e.2.2, (E (p + 3) (by omega)).2.2⟩, s⟩
theorem pgS.t (h : pgS C p) (E : eqO (fun a => a ≠ p + 1 ∧ a ≠ p + 2) C C') : pgS C' p := by
  have e := E p (by omega)
  exact ⟨by rw [e.2.1]; exact h.1, by rw [e.2.1]; exact h.2.1, by rw [(E (p + 3) (by omega)).2.2]; exact h.2.2⟩
/-- a byte -/
theorem g52_s (W : pgW C p o l) {c : Nat} (hc : c < 256) : ∃ C', g52 p (nI c) C = some C' ∧ pgW C' p o (l ++ [c]) ∧ pwE p C C' := by
  obtain ⟨⟨S, hw⟩, W⟩ := W
  have e1 : (o.1 ++ (l ++ [c])).length = (o.1 ++ l).length + 1 := by simp only [List.length_append, List.length_singleton]; omega
  unfold g52 gj52_16
  rw [S.1]
  simp only [bS]
  rcases W with ⟨t, ⟨n1, n2⟩, n6, n7, n8⟩ | ⟨n8, ⟨bs, t⟩, ⟨n, hn, n3⟩, hl⟩
  · by_cases h : (o.1 ++ l).length < 4000
    · obtain ⟨D, d1, d2, d3, d4⟩ := g97_s t h (by omega) (nI c)
      rw [d1]
      simp only [bS]
      rw [if_neg (show ¬ (1 : Int32) = 0 by decide)]
      have e := d3 p (by omega)
      rw [bOf_nI hc, List.append_assoc] at d2
      exact ⟨D, rfl, ⟨⟨S.t d3, hw⟩, Or.inl ⟨d2, ⟨by rw [e.1]; exact n1, fun i hi => by rw [(d3 (p + 3) (by omega)).1]; exact n2 i hi⟩, by rw [e.1]; exact n6, by rw [e.1]; exact n7, by rw [e.1]; exact n8⟩⟩, pwE.t d3 d4⟩
    · rw [g97_f t h]
      simp only [bS]
      have t5 := t.2.2.2.2.1
      rw [if_pos trivial]
      refine ⟨_, rfl, ⟨⟨S.u, hw⟩, Or.inr ⟨by rw [uI_e], ⟨_, t.kp (P := fun a => a ≠ p) (eqO.uI (fun h9 => h9 rfl)) (by omega) (by omega)⟩, ⟨o.2.1.length, by rw [List.length_append] at t5; omega, by rw [uI_n (by omega)]; exact n1⟩, by omega⟩⟩, pwE.u ⟨by decide, by decide⟩⟩
  · by_cases h : bs.length < 4000
    · obtain ⟨D, d1, d2, d3, d4⟩ := g97_s t h (by omega) (nI c)
      rw [d1]
      simp only [bS]
      rw [if_neg (show ¬ (1 : Int32) = 0 by decide)]
      have e := d3 p (by omega)
      exact ⟨D, rfl, ⟨⟨S.t d3, hw⟩, Or.inr ⟨by rw [e.1]; exact n8, ⟨_, d2⟩, ⟨n, hn, by rw [e.1]; exact n3⟩, by omega⟩⟩, pwE.t d3 d4⟩
    · rw [g97_f t h]
      simp only [bS]
      rw [if_pos trivial]
      exact ⟨_, rfl, ⟨⟨S.u, hw⟩, Or.inr ⟨by rw [uI_e], ⟨_, t.kp (P := fun a => a ≠ p) (eqO.uI (fun h9 => h9 rfl)) (by omega) (by omega)⟩, ⟨n, hn, by rw [uI_n (by omega)]; exact n3⟩, by omega⟩⟩, pwE.u ⟨by decide, by decide⟩⟩
/-- blanks -/
theorem g53_s : ∀ k n i (C : xC) (l : List Nat) (m : Nat), i + k = m → k < n → m < 2 ^ 31 → pgW C p o l → ∃ C', gl53_2 n p (nI m) (nI i) C = some C' ∧ pgW C' p o (l ++ List.replicate k 32) ∧ pwE p C C' := by
  intro k
  induction k with
  | zero =>
    intro n i C l m hi hn hm W
    obtain ⟨n, rfl⟩ : ∃ x, n = x + 1 := ⟨n - 1, by omega⟩
    rw [gl53_2]
    dsimp only
    rw [if_pos (nI_le (by omega) (by omega))]
    exact ⟨C, rfl, by simpa using W, pwE.rfl'⟩
  | succ k ih =>
    intro n i C l m hi hn hm W
    obtain ⟨n, rfl⟩ : ∃ x, n = x + 1 := ⟨n - 1, by omega⟩
    rw [gl53_2]
    dsimp only
    rw [if_neg (nI_ge (by omega) (by omega))]
    obtain ⟨D, d1, d2, d3⟩ := g52_s W (c := 32) (by decide)
    rw [show (32 : Int32) = nI 32 from rfl, d1]
    simp only [bS]
    rw [nI_1]
    obtain ⟨V, v1, v2, v3⟩ := ih n (i + 1) D _ m (by omega) (by omega) hm d2
    refine ⟨V, v1, ?_, d3.tr v3⟩
    rw [List.append_assoc, List.singleton_append] at v2
    exact v2
end PCPW
