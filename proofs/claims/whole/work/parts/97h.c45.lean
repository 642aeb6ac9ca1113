section PC45
variable {C C' C0 : xC} {σ : St} {g : Gh} {es : List En} {l : List (Nat × Nat)}
/-- inherit of nobody -/
theorem g45_s {c e : Nat} {m : Cm} (gc : gC es e = m) (T : cRd C c m.2) (S : cSh C c) (w24 : m.2.1.length ≤ 24) (hB : ∀ b ∈ m.2.1, bSo b ≤ 7 ∧ bDe b ≤ 2) (w7 : (m.2.1.filter fun b => bSo b == 7).length ≤ 1) (ea : Nat → Nat) (Nn : cNt C l) (hl : l.length + ((m.2.1.filter (nsP es e 3)).map fun b => (3, bPl b)).length ≤ 216) : ∃ C', g45 15 (some c) ((cnt es 40 (abv es e)).map ea) C = some C' ∧ cNt C' (l ++ (m.2.1.filter (nsP es e 3)).map fun b => (3, bPl b)) ∧ eqO nQ C C' ∧ sm C C' := by
  unfold g45 gj45_24
  simp only [bS]
  rw [show (7 : Int32) = nI 7 from rfl, g9_s S T (by omega) hB (by decide)]
  simp only [bS]
  have ix := ix9_1 w7
  cases hn : cnt es 40 (abv es e) with
  | some t =>
    have en : m.2.1.filter (nsP es e 3) = [] := by
      rw [List.filter_eq_nil_iff]
      intro b _
      unfold nsP
      rw [if_pos rfl, hn]
      simp
    rw [en]
    have : ∀ o : Option Nat, (if o = none then some C else if Option.map ea (some t) = none then (o.bind fun a_7 => (g41 15 3 (cI C a_7 2) C).bind fun C_9 => some C_9) else some C) = some C := fun o => by
      cases o with
      | none => rw [if_pos rfl]
      | some x => rw [if_neg (by simp), if_neg (by simp)]
    rw [this]
    exact ⟨C, rfl, by simpa using Nn, eqO.rfl', sm.rfl'⟩
  | none =>
    have en : m.2.1.filter (nsP es e 3) = m.2.1.filter fun b => bSo b == 7 := by
      congr 1
      funext b
      unfold nsP
      rw [if_pos rfl, hn]
      simp
    rw [en] at hl ⊢
    cases hx : ix9 m.2.1 7 m.2.1.length 0 with
    | none =>
      rw [hx] at ix
      rw [if_pos (show Option.map (fun k => c + 4 + k) none = none from rfl), ix]
      exact ⟨C, rfl, by simpa using Nn, eqO.rfl', sm.rfl'⟩
    | some k =>
      rw [hx] at ix
      obtain ⟨i1, i2, i3⟩ := ix
      rw [i3] at hl ⊢
      rw [Option.map_some, if_neg (show ¬ some (c + 4 + k) = none by simp), if_pos (show Option.map ea none = none from rfl)]
      simp only [bS]
      rw [(T.1.2 k i1).2.2.1]
      simp only [List.map_cons, List.map_nil, List.length_singleton] at hl ⊢
      obtain ⟨V, v1, v2, v3, v4⟩ := g41_s Nn (by omega) 3 (bPl (m.2.1.getD k bkD))
      rw [show (3 : Int32) = nI 3 from rfl, v1]
      exact ⟨V, rfl, v2, v3, v4⟩
/-- a return where nothing is given back -/
theorem g47_s {c e : Nat} {m : Cm} (gc : gC es e = m) (T : cRd C c m.2) (S : cSh C c) (w24 : m.2.1.length ≤ 24) (hB : ∀ b ∈ m.2.1, bSo b ≤ 7 ∧ bDe b ≤ 2) (w3 : (m.2.1.filter fun b => bSo b == 3).length ≤ 1) {x : Nat} (h4 : cI C x 4 = bZ (eGv (gE es e))) (Nn : cNt C l) (hl : l.length + ((m.2.1.filter (nsP es e 5)).map fun b => (5, bPl b)).length ≤ 216) : ∃ C', g47 15 (some x) (some c) C = some C' ∧ cNt C' (l ++ (m.2.1.filter (nsP es e 5)).map fun b => (5, bPl b)) ∧ eqO nQ C C' ∧ sm C C' := by
  unfold g47 gj47_26
  simp only [bS]
  rw [show g9 c 3 C = g9 c (nI 3) C from rfl, g9_s S T (by omega) hB (by decide)]
  simp only [bS]
  rw [h4]
  simp only [bZ_0]
  have ix := ix9_1 w3
  cases hn : eGv (gE es e) with
  | true =>
    have en : m.2.1.filter (nsP es e 5) = [] := by
      rw [List.filter_eq_nil_iff]
      intro b _
      unfold nsP
      rw [if_neg (by decide), if_neg (by decide), hn]
      simp
    rw [en]
    have : ∀ o : Option Nat, (if o = none then some C else if true = false then (o.bind fun a_8 => (g41 15 5 (cI C a_8 2) C).bind fun C_10 => some C_10) else some C) = some C := fun o => by
      cases o with
      | none => rw [if_pos rfl]
      | some x => rw [if_neg (by simp), if_neg (by simp)]
    rw [this]
    exact ⟨C, rfl, by simpa using Nn, eqO.rfl', sm.rfl'⟩
  | false =>
    have en : m.2.1.filter (nsP es e 5) = m.2.1.filter fun b => bSo b == 3 := by
      congr 1
      funext b
      unfold nsP
      rw [if_neg (by decide), if_neg (by decide), hn]
      simp
    rw [en] at hl ⊢
    cases hx : ix9 m.2.1 3 m.2.1.length 0 with
    | none =>
      rw [hx] at ix
      rw [if_pos (show Option.map (fun k => c + 4 + k) none = none from rfl), ix]
      exact ⟨C, rfl, by simpa using Nn, eqO.rfl', sm.rfl'⟩
    | some k =>
      rw [hx] at ix
      obtain ⟨i1, i2, i3⟩ := ix
      rw [i3] at hl ⊢
      rw [Option.map_some, if_neg (show ¬ some (c + 4 + k) = none by simp), if_pos (Eq.refl false)]
      simp only [bS]
      rw [(T.1.2 k i1).2.2.1]
      simp only [List.map_cons, List.map_nil, List.length_singleton] at hl ⊢
      obtain ⟨V, v1, v2, v3, v4⟩ := g41_s Nn (by omega) 5 (bPl (m.2.1.getD k bkD))
      rw [show (5 : Int32) = nI 5 from rfl, v1]
      exact ⟨V, rfl, v2, v3, v4⟩
theorem told_r {e k : Nat} : told es none (k + 1) (some e) = (((gC es e).2.1.any fun b => bSo b == 3) || told es none k (abv es e)) := rfl
theorem told_p {e k : Nat} {a : List Nat} : told es (some a) (k + 1) (some e) = (((gC es e).2.1.any fun b => (bSo b == 2) && decide (cut (gC es e).1 (bNf b) (bNt b) = a)) || told es (some a) k (abv es e)) := rfl
/-- told by the comment, or further up -/
theorem g49_s (H : cE C g.1 g.2.1 g.2.2.1 es) (w : wE es) {o2 : Option Nat} {nm : Option (List Nat)} (ho : match nm with
    | none => o2 = none
    | some t => ∃ q y room, o2 = some q ∧ TX C q y room t) (o1 : Option Nat) : ∀ k n (o : Option Nat), k ≤ 40 → k < n → (∀ e, o = some e → e < es.length) → gl49_5 n (some 3) o1 o2 (o.map g.1) (nI (40 - k)) C = some (bZ (told es nm k o), C) := by
  intro k
  induction k with
  | zero =>
    intro n o hk hn h
    obtain ⟨n, rfl⟩ : ∃ m, n = m + 1 := ⟨n - 1, by omega⟩
    rw [gl49_5]
    dsimp only
    rw [if_pos (show (40 : Int32) ≤ nI (40 - 0) by decide)]
    rfl
  | succ k ih =>
    intro n o hk hn h
    obtain ⟨n, rfl⟩ : ∃ m, n = m + 1 := ⟨n - 1, by omega⟩
    rw [gl49_5]
    dsimp only
    rw [if_neg (show ¬ (40 : Int32) ≤ nI (40 - (k + 1)) from nI_ge (b := 40) (by omega) (by decide))]
    cases o with
    | none =>
      rw [if_pos (show Option.map g.1 none = none from rfl)]
      rfl
    | some e =>
      have he := h e rfl
      rw [Option.map_some, if_neg (show ¬ some (g.1 e) = none by simp)]
      simp only [bS]
      rw [g14_s H he]
      simp only [bS]
      have nx : ∀ r : Option Nat, gj49_54 (gl49_5 n) (some 3) o1 o2 (some (g.1 e)) (nI (40 - (k + 1))) r C = some (bZ (told es nm k (abv es e)), C) := fun r => by
        unfold gj49_54
        simp only [bS]
        rw [g90_s H w he]
        simp only [bS]
        rw [nI_1, show 40 - (k + 1) + 1 = 40 - k by omega]
        exact ih n (abv es e) (by omega) (by omega) fun a ha => (abv_lt w he ha).1
      cases hc : (eCm (gE es e)).isSome with
      | false =>
        rw [if_neg (show ¬ false = true by decide), if_pos (Eq.refl none), nx]
        cases nm with
        | none => rw [told_r, gC_none hc]; rfl
        | some t => rw [told_p, gC_none hc]; rfl
      | true =>
        obtain ⟨x2, x3, x4, x5⟩ := cE_cm H w he hc
        obtain ⟨wt, w24, w120, wB1, _⟩ := x5
        rw [if_pos (Eq.refl true), if_neg (show ¬ some (g.2.2.1 e) = none by simp)]
        unfold gj49_52
        cases nm with
        | none =>
          have ho : o2 = none := ho
          rw [if_pos ho]
          simp only [bS]
          rw [show g9 (g.2.2.1 e) 3 C = g9 (g.2.2.1 e) (nI 3) C from rfl, g9_s x4 x3.2 (by omega) (fun b hb => ⟨(wB1 b hb).1, (wB1 b hb).2.2.1⟩) (by decide)]
          simp only [bS]
          rw [told_r]
          cases hx : ix9 (gC es e).2.1 3 (gC es e).2.1.length 0 with
          | none =>
            rw [if_pos (show Option.map (fun k => g.2.2.1 e + 4 + k) none = none from rfl), nx, ix9_a.mp hx]
            rfl
          | some y =>
            have : ((gC es e).2.1.any fun b => bSo b == 3) = true := by
              cases h9 : ((gC es e).2.1.any fun b => bSo b == 3) with
              | true => rfl
              | false => rw [ix9_a.mpr h9] at hx; cases hx
            rw [if_neg (show ¬ Option.map (fun k => g.2.2.1 e + 4 + k) (some y) = none by simp), this]
            rfl
        | some t =>
          obtain ⟨q, y, room, h1, h2⟩ := ho
          rw [h1, if_neg (show ¬ some q = none by simp)]
          rw [h1] at nx
          simp only [bS]
          rw [g10_s x4 x3.1 x3.2 (by omega) (fun b hb => ⟨(wB1 b hb).1, (wB1 b hb).2.2.2.2.1, (wB1 b hb).2.2.2.2.2.1⟩) h2]
          simp only [bS, bZ_0]
          rw [told_p]
          have ea : ((gC es e).2.1.any fun b => decide (bSo b = 2) && decide (cut (gC es e).1 (bNf b) (bNt b) = t)) = ((gC es e).2.1.any fun b => (bSo b == 2) && decide (cut (gC es e).1 (bNf b) (bNt b) = t)) := by
            rfl
          rw [ea]
          cases ((gC es e).2.1.any fun b => (bSo b == 2) && decide (cut (gC es e).1 (bNf b) (bNt b) = t)) with
          | false =>
            rw [if_pos (Eq.refl false), nx]
            rfl
          | true =>
            rw [if_neg (show ¬ true = false by decide)]
            rfl
end PC45
