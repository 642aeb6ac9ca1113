section PCMK
variable {C C' : xC} {p : Nat} {g : Gh} {es : List En} {ts : List Nat}
/-- the targets of a page -/
def tgC (C : xC) (p : Nat) (g : Gh) (ts : List Nat) : Prop := cR C p 2 = some (p + 4) ∧ (cK C (p + 4)).2 = 40 ∧ cI C p 4 = nI ts.length ∧ ∀ i, i < ts.length → cR C (p + 4) i = some (g.1 (ts.getD i 0))
/-- the number of a target -/
theorem g58_s (T : tgC C p g ts) (inj : ∀ i j, i < es.length → j < es.length → g.1 i = g.1 j → i = j) (ht : ∀ x ∈ ts, x < es.length) (h40 : ts.length ≤ 40) {t : Option Nat} (hv : ∀ e, t = some e → e < es.length ∧ (e ∉ ts → ts.length < 40)) : ∃ C', g58 p (t.map g.1) C = some (nI (match t with
    | none => 0
    | some e => ts.findIdx (fun x => x == e) + 1), C') ∧ tgC C' p g (mark ts t).2 ∧ eqO (fun a => a ≠ p ∧ a ≠ p + 4) C C' ∧ (∀ k, cR C' p k = cR C p k) ∧ (∀ k, k ≠ 4 → cI C' p k = cI C p k) ∧ sm C C' := by
  obtain ⟨t1, t2, t3, t4⟩ := id T
  unfold g58
  cases t with
  | none =>
    have key : ∀ k n i, i + k = ts.length → k < n → gl58_2 n p none (nI i) C = some (nI 0, C) := by
      intro k
      induction k with
      | zero =>
        intro n i hi hn
        obtain ⟨n, rfl⟩ : ∃ x, n = x + 1 := ⟨n - 1, by omega⟩
        rw [gl58_2]
        dsimp only
        rw [t3, if_pos (nI_le (by omega) (by omega)), if_pos rfl]
        rfl
      | succ k ih =>
        intro n i hi hn
        obtain ⟨n, rfl⟩ : ∃ x, n = x + 1 := ⟨n - 1, by omega⟩
        rw [gl58_2]
        dsimp only
        rw [t3, if_neg (nI_ge (by omega) (by omega)), t1]
        simp only [bS]
        rw [cLR_n (n := 40) (by omega) t2 (by decide), t4 i (by omega)]
        simp only [bS]
        rw [if_neg (show ¬ some (g.1 (ts.getD i 0)) = none by simp), nI_1]
        exact ih n (i + 1) (by omega) (by omega)
    refine ⟨C, key ts.length xFuel 0 (by omega) (pFuel _ (by omega)), T, eqO.rfl', fun _ => rfl, fun _ _ => rfl, sm.rfl'⟩
  | some e =>
    obtain ⟨he, h9⟩ := hv e rfl
    have kx : ts.findIdx (fun x => x == e) = ts.length → e ∉ ts := fun hk hm => by
      have := List.findIdx_lt_length_of_exists (xs := ts) (p := fun x => x == e) ⟨e, hm, by simp⟩
      omega
    have kl : ts.findIdx (fun x => x == e) ≤ ts.length := List.findIdx_le_length
    have mk : (mark ts (some e)).2 = if ts.findIdx (fun x => x == e) = ts.length then ts ++ [e] else ts := rfl
    rw [mk]
    have es' := fi_sc (fun x => x == e) 0 ts
    -- to its place
    have key : ∀ k n i, i + k = ts.length → k < n → ∃ n', n = n' + (sc (fun j => ts.getD j 0 == e) i k - i) + 1 ∧ gl58_2 n p (some (g.1 e)) (nI i) C = gl58_2 (n' + 1) p (some (g.1 e)) (nI (sc (fun j => ts.getD j 0 == e) i k)) C := by
      intro k
      induction k with
      | zero =>
        intro n i hi hn
        exact ⟨n - 1, by rw [sc]; omega, by rw [sc, show n - 1 + 1 = n by omega]⟩
      | succ k ih =>
        intro n i hi hn
        by_cases h : ts.getD i 0 = e
        · rw [sc_t (by simpa using h)]
          exact ⟨n - 1, by omega, by rw [show n - 1 + 1 = n by omega]⟩
        · obtain ⟨n, rfl⟩ : ∃ x, n = x + 1 := ⟨n - 1, by omega⟩
          rw [sc_f (by simpa using h)]
          obtain ⟨n', h1, h2⟩ := ih n (i + 1) (by omega) (by omega)
          have s1 := sc_ge (fun j => ts.getD j 0 == e) k (i + 1)
          refine ⟨n', by omega, ?_⟩
          rw [gl58_2]
          dsimp only
          have hx := ht _ (gD_mem (l := ts) (i := i) (d := 0) (by omega))
          rw [t3, if_neg (nI_ge (by omega) (by omega)), t1]
          simp only [bS]
          rw [cLR_n (n := 40) (by omega) t2 (by decide), t4 i (by omega)]
          simp only [bS]
          rw [if_neg (show ¬ some (g.1 (ts.getD i 0)) = some (g.1 e) from fun h8 => h (inj _ _ hx he (Option.some.inj h8))), nI_1]
          exact h2
    obtain ⟨n', _, k2⟩ := key ts.length xFuel 0 (by omega) (pFuel _ (by omega))
    rw [show gl58_2 xFuel p (Option.map g.1 (some e)) 0 C = gl58_2 xFuel p (some (g.1 e)) (nI 0) C from Eq.refl _, k2, ← es', gl58_2]
    dsimp only
    have at' : ts.findIdx (fun x => x == e) < ts.length → ts.getD (ts.findIdx (fun x => x == e)) 0 = e := fun hlt => by
      have := List.findIdx_getElem (xs := ts) (p := fun x => x == e) (w := hlt)
      rw [List.getD_eq_getElem?_getD, List.getElem?_eq_getElem hlt]
      simpa using this
    generalize ts.findIdx (fun x => x == e) = k at kx kl at' ⊢
    by_cases hk : k = ts.length
    · have hlt := h9 (kx hk)
      rw [t3, if_pos (nI_le (by omega) (by omega)), if_neg (show ¬ some (g.1 e) = none by simp), t1]
      simp only [bS]
      rw [t2, if_pos (show nI ts.length < Int32.ofNat 40 from nI_lt (b := 40) hlt (by decide)), cSR_n (n := 40) hlt t2 (by decide)]
      simp only [bS]
      rw [uI_e, uR_i, t3, nI_1, if_pos hk, hk]
      refine ⟨_, rfl, ⟨by rw [uI_r, uR_n (by omega)]; exact t1, by rw [uI_K, uR_K]; exact t2, by rw [uI_e]; simp, fun i hi => ?_⟩, (eqO.uR (fun h9 => h9.2 rfl)).tr (eqO.uI (fun h9 => h9.1 rfl)), fun j => by rw [uI_r, uR_n (by omega)], fun j hj => by rw [uI_n (by omega), uR_i], rfl, rfl⟩
      have hi : i < ts.length + 1 := by simpa using hi
      rw [gD_app hi, uI_r]
      by_cases h8 : i = ts.length
      · rw [if_pos h8, h8, uR_e]
      · rw [if_neg h8, uR_n (by omega)]
        exact t4 i (by omega)
    · rw [t3, if_neg (nI_ge (by omega) (by omega)), t1]
      simp only [bS]
      rw [cLR_n (n := 40) (by omega) t2 (by decide), t4 k (by omega), at' (by omega)]
      simp only [bS]
      rw [if_pos trivial, if_neg hk, nI_1]
      exact ⟨C, rfl, T, eqO.rfl', fun _ => rfl, fun _ _ => rfl, sm.rfl'⟩
end PCMK
