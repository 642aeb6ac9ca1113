section PMSC
theorem rfAt_of (f : Nat → Nat) {i k e : Nat} (h : rfOK f i k = true) (hk : i + k ≤ e) (hd : i + k = e ∨ (isNB (f (i + k)) = false ∧ f (i + k) ≠ 46)) : rfAt f i e = k := by
  unfold rfOK at h
  dsimp only at h
  have a := sc_ge (fun j => f j == 46) k i
  have c := sc_at (fun j => f j == 46) k i
  generalize sc (fun j => f j == 46) i k = d at a c h
  rw [Bool.and_eq_true, Bool.or_eq_true, decide_eq_true_eq] at h
  obtain ⟨h1, h2⟩ := h
  have n1 := nmOK_NB h1
  have hd2 : i + (d - i) = d := by omega
  have e1 : nmAt f i e = d - i := by
    refine nmAt_nm f (by omega) h1 ?_
    rw [hd2]
    by_cases hk2 : d = i + k
    · rcases hd with hd | hd
      · exact Or.inl (by omega)
      · rw [hk2]
        exact Or.inr hd.1
    · have := c (by omega)
      rw [beq_iff_eq] at this
      rw [this]
      exact Or.inr isNB_46
  unfold rfAt
  dsimp only
  rw [e1, hd2]
  by_cases hk2 : d = i + k
  · have h9 : d - i = 0 ∨ e ≤ d ∨ f d ≠ 46 := by
      rcases hd with hd | hd
      · exact Or.inr (Or.inl (by omega))
      · rw [hk2]
        exact Or.inr (Or.inr hd.2)
    rw [if_pos h9]
    omega
  · have h46 := c (by omega)
    rw [beq_iff_eq] at h46
    rw [if_neg (by omega)]
    have h3 := h2.resolve_left hk2
    have n2 := nmOK_NB h3
    have e2 : nmAt f (d + 1) e = i + k - (d + 1) := by
      refine nmAt_nm f (by omega) h3 ?_
      rw [show d + 1 + (i + k - (d + 1)) = i + k by omega]
      rcases hd with hd | hd
      · exact Or.inl hd
      · exact Or.inr hd.1
    rw [e2, if_neg (by omega)]
    omega
theorem rfAt_ok (f : Nat → Nat) {i e : Nat} (h : rfAt f i e ≠ 0) : rfOK f i (rfAt f i e) = true := by
  unfold rfAt at h ⊢
  dsimp only at h ⊢
  by_cases hn : nmAt f i e = 0 ∨ e ≤ i + nmAt f i e ∨ f (i + nmAt f i e) ≠ 46
  · rw [if_pos hn] at h ⊢
    have n1 := nmAt_ok f h
    have n2 := nmOK_NB n1.1
    generalize nmAt f i e = k at h hn n1 n2
    have e1 : sc (fun j => f j == 46) i k = i + k := sc_un _ (by omega) (by omega) (fun j x y => NB_dot (n2.2.2.2 j x y)) (fun x => by omega)
    unfold rfOK
    dsimp only
    rw [e1, Nat.add_sub_cancel_left, n1.1]
    simp
  · rw [if_neg hn] at h ⊢
    have g1 : ¬ nmAt f i e = 0 := fun h9 => hn (Or.inl h9)
    have g3 : f (i + nmAt f i e) = 46 := Decidable.byContradiction fun h9 => hn (Or.inr (Or.inr h9))
    have n1 := nmAt_ok f g1
    have n2 := nmOK_NB n1.1
    generalize nmAt f i e = n at h hn g1 g3 n1 n2
    by_cases hm : nmAt f (i + n + 1) e = 0
    · rw [if_pos hm] at h
      exact absurd rfl h
    · rw [if_neg hm] at h ⊢
      have n3 := nmAt_ok f hm
      generalize nmAt f (i + n + 1) e = m at h hm n3
      have e1 : sc (fun j => f j == 46) i (n + 1 + m) = i + n := sc_un _ (by omega) (by omega) (fun j x y => NB_dot (n2.2.2.2 j x y)) (fun x => by simp [g3])
      unfold rfOK
      dsimp only
      rw [e1, Nat.add_sub_cancel_left, n1.1, show i + (n + 1 + m) - (i + n + 1) = m by omega, n3.1]
      simp
theorem rfAt_le (f : Nat → Nat) {i e : Nat} (h : i ≤ e) : i + rfAt f i e ≤ e ∧ rfAt f i e ≤ 21 := by
  have a := nmAt_le f i e
  have b := nmAt_le f (i + nmAt f i e + 1) e
  unfold rfAt
  dsimp only
  split
  · omega
  · split <;> omega
theorem rfOK_ch {f : Nat → Nat} {i k : Nat} (h : rfOK f i k = true) : 0 < k ∧ ∀ j, i ≤ j → j < i + k → isNB (f j) = true ∨ f j = 46 := by
  unfold rfOK at h
  dsimp only at h
  have a := sc_ge (fun j => f j == 46) k i
  have c := sc_at (fun j => f j == 46) k i
  generalize sc (fun j => f j == 46) i k = d at a c h
  rw [Bool.and_eq_true, Bool.or_eq_true, decide_eq_true_eq] at h
  obtain ⟨h1, h2⟩ := h
  have n1 := nmOK_NB h1
  refine ⟨by omega, fun j x y => ?_⟩
  by_cases hj : j < d
  · exact Or.inl (n1.2.2.2 j x (by omega))
  · by_cases hj2 : j = d
    · subst hj2
      have := c y
      rw [beq_iff_eq] at this
      exact Or.inr this
    · have h3 := h2.resolve_left (by omega)
      have n2 := nmOK_NB h3
      exact Or.inl (n2.2.2.2 j (by omega) (by omega))
theorem NBd {c : Nat} (h : isNB c = true ∨ c = 46) : c ≠ 32 ∧ c ≠ 125 ∧ c ≠ 123 ∧ 46 ≤ c ∧ c ≤ 122 := by
  rcases h with h | h
  · simp [isNB, isBg, isSm, isFg] at h
    omega
  · omega
/-- the link behind its sign, as the reference reads it: shown from, to, the reference's end -/
def lkM (f : Nat → Nat) (i to : Nat) : Option (Nat × Nat × Nat) :=
  if rfAt f i to = 0 ∨ i + rfAt f i to = to then none
  else if f (i + rfAt f i to) = 32 then
    if 1 ≤ sc (fun j => f j == 123 || f j == 125) (skp f (i + rfAt f i to) to) (to - skp f (i + rfAt f i to) to) - skp f (i + rfAt f i to) to ∧ sc (fun j => f j == 123 || f j == 125) (skp f (i + rfAt f i to) to) (to - skp f (i + rfAt f i to) to) - skp f (i + rfAt f i to) to ≤ 60 ∧ f (sc (fun j => f j == 123 || f j == 125) (skp f (i + rfAt f i to) to) (to - skp f (i + rfAt f i to) to) - 1) ≠ 32 ∧ sc (fun j => f j == 123 || f j == 125) (skp f (i + rfAt f i to) to) (to - skp f (i + rfAt f i to) to) < to ∧ f (sc (fun j => f j == 123 || f j == 125) (skp f (i + rfAt f i to) to) (to - skp f (i + rfAt f i to) to)) = 125 then some (skp f (i + rfAt f i to) to, sc (fun j => f j == 123 || f j == 125) (skp f (i + rfAt f i to) to) (to - skp f (i + rfAt f i to) to), i + rfAt f i to) else none
  else if f (i + rfAt f i to) = 125 then some (i, i + rfAt f i to, i + rfAt f i to) else none
def lkS (f : Nat → Nat) (i to : Nat) : Option (Nat × Nat × Nat) :=
  let cl := sc (fun j => f j == 125) i (to - i)
  let nt := sc (fun j => f j == 32) i (cl - i)
  let lb := sc (fun j => !(f j == 32)) nt (cl - nt)
  if cl < to ∧ rfOK f i (nt - i) = true ∧ (nt = cl ∨ (1 ≤ cl - lb ∧ cl - lb ≤ 60 ∧ f (cl - 1) ≠ 32 ∧ sc (fun j => f j == 123) lb (cl - lb) = cl)) then some (if nt = cl then i else lb, cl, nt) else none
theorem lk_SM {f : Nat → Nat} {i to : Nat} (hi : i ≤ to) {q : Nat × Nat × Nat} (h : lkS f i to = some q) : lkM f i to = some q := by
  unfold lkS at h
  dsimp only at h
  split at h
  · rename_i hc
    obtain ⟨h1, h2, h3⟩ := hc
    have a1 := sc_ge (fun j => f j == 125) (to - i) i
    have a2 := sc_at (fun j => f j == 125) (to - i) i
    have a3 := sc_no (fun j => f j == 125) (to - i) i
    generalize sc (fun j => f j == 125) i (to - i) = cl at a1 a2 a3 h1 h2 h3 h
    have b1 := sc_ge (fun j => f j == 32) (cl - i) i
    have b2 := sc_at (fun j => f j == 32) (cl - i) i
    generalize sc (fun j => f j == 32) i (cl - i) = nt at b1 b2 h2 h3 h
    have c1 := sc_ge (fun j => !(f j == 32)) (cl - nt) nt
    have c2 := sc_at (fun j => !(f j == 32)) (cl - nt) nt
    have c3 := sc_no (fun j => !(f j == 32)) (cl - nt) nt
    generalize sc (fun j => !(f j == 32)) nt (cl - nt) = lb at c1 c2 c3 h3 h
    have f1 : f cl = 125 := by
      have := a2 (by omega)
      rwa [beq_iff_eq] at this
    have f2 : nt < cl → f nt = 32 := fun h9 => by
      have := b2 (by omega)
      rwa [beq_iff_eq] at this
    have f3 : f nt = 32 ∨ f nt = 125 := by
      by_cases h9 : nt < cl
      · exact Or.inl (f2 h9)
      · rw [show nt = cl by omega]
        exact Or.inr f1
    have hk := rfOK_ch h2
    have e1 : rfAt f i to = nt - i := by
      refine rfAt_of f h2 (by omega) (Or.inr ?_)
      rw [show i + (nt - i) = nt by omega]
      rcases f3 with h9 | h9 <;> rw [h9] <;> decide
    unfold lkM
    rw [e1, show i + (nt - i) = nt by omega, if_neg (by omega), ← h]
    by_cases h9 : nt = cl
    · rw [if_pos h9, if_neg (by rw [h9, f1]; decide), if_pos (by rw [h9, f1]), h9]
    · have g3 := h3.resolve_left h9
      have e2 : skp f nt to = lb := sc_un _ c1.1 (by omega) (fun j x y => c3 j x (by omega)) (fun _ => c2 (by omega))
      have e3 := sc_no (fun j => f j == 123) (cl - lb) lb
      rw [g3.2.2.2] at e3
      have e4 : sc (fun j => f j == 123 || f j == 125) lb (to - lb) = cl := by
        refine sc_un _ (by omega) (by omega) (fun j x y => ?_) (fun _ => by simp [f1])
        have x1 := e3 j x y
        have x2 := a3 j (by omega) y
        rw [x1, x2]
        rfl
      rw [if_pos (f2 (by omega)), e2, e4, if_pos ⟨g3.1, g3.2.1, g3.2.2.1, h1, f1⟩, if_neg h9]
  · cases h
theorem lk_MS {f : Nat → Nat} {i to : Nat} (hi : i ≤ to) {q : Nat × Nat × Nat} (h : lkM f i to = some q) : lkS f i to = some q := by
  unfold lkM at h
  have r1 := rfAt_le f hi
  by_cases h0 : rfAt f i to = 0 ∨ i + rfAt f i to = to
  · rw [if_pos h0] at h
    cases h
  rw [if_neg h0] at h
  have r2 := rfAt_ok f (i := i) (e := to) (by omega)
  have r3 := rfOK_ch r2
  generalize hR : rfAt f i to = R at h0 h r1 r2 r3
  have r4 : ∀ j, i ≤ j → j < i + R → f j ≠ 32 ∧ f j ≠ 125 := fun j x y => ⟨(NBd (r3.2 j x y)).1, (NBd (r3.2 j x y)).2.1⟩
  by_cases h32 : f (i + R) = 32
  · rw [if_pos h32] at h
    have s1 := sc_ge (fun j => !(f j == 32)) (to - (i + R)) (i + R)
    have s2 := sc_at (fun j => !(f j == 32)) (to - (i + R)) (i + R)
    have s3 := sc_no (fun j => !(f j == 32)) (to - (i + R)) (i + R)
    rw [show sc (fun j => !(f j == 32)) (i + R) (to - (i + R)) = skp f (i + R) to from rfl] at s1 s2 s3
    generalize skp f (i + R) to = s at h s1 s2 s3
    have z1 := sc_ge (fun j => f j == 123 || f j == 125) (to - s) s
    have z3 := sc_no (fun j => f j == 123 || f j == 125) (to - s) s
    generalize sc (fun j => f j == 123 || f j == 125) s (to - s) = z at h z1 z3
    split at h
    · rename_i hc
      obtain ⟨k1, k2, k3, k4, k5⟩ := hc
      have e1 : sc (fun j => f j == 125) i (to - i) = z := by
        refine sc_un _ (by omega) (by omega) (fun j x y => ?_) (fun _ => by simp [k5])
        by_cases y1 : j < i + R
        · have := (r4 j x y1).2
          simpa using this
        · by_cases y2 : j < s
          · have := s3 j (by omega) y2
            simp at this
            simp [this]
          · have := z3 j (by omega) y
            simp at this
            simp [this.2]
      have e2 : sc (fun j => f j == 32) i (z - i) = i + R := by
        refine sc_un _ (by omega) (by omega) (fun j x y => ?_) (fun _ => by simp [h32])
        have := (r4 j x y).1
        simpa using this
      have e3 : sc (fun j => !(f j == 32)) (i + R) (z - (i + R)) = s := sc_un _ (by omega) (by omega) (fun j x y => s3 j x y) (fun _ => s2 (by omega))
      have e4 : sc (fun j => f j == 123) s (z - s) = z := by
        refine sc_un _ (by omega) (by omega) (fun j x y => ?_) (fun h9 => by omega)
        have := z3 j x y
        simp at this
        simp [this.1]
      unfold lkS
      dsimp only
      rw [e1, e2, e3, e4, Nat.add_sub_cancel_left, if_pos ⟨k4, r2, Or.inr ⟨k1, k2, k3, rfl⟩⟩, if_neg (by omega), h]
    · cases h
  · rw [if_neg h32] at h
    split at h
    · rename_i h125
      have e1 : sc (fun j => f j == 125) i (to - i) = i + R := by
        refine sc_un _ (by omega) (by omega) (fun j x y => ?_) (fun _ => by simp [h125])
        have := (r4 j x y).2
        simpa using this
      have e2 : sc (fun j => f j == 32) i (i + R - i) = i + R := by
        refine sc_un _ (by omega) (by omega) (fun j x y => ?_) (fun h9 => by omega)
        have := (r4 j x y).1
        simpa using this
      unfold lkS
      dsimp only
      rw [e1, e2, Nat.add_sub_cancel_left, if_pos ⟨by omega, r2, Or.inl rfl⟩, if_pos rfl, h]
    · cases h
theorem lk_eq {f : Nat → Nat} {i to : Nat} (hi : i ≤ to) : lkM f i to = lkS f i to := by
  cases hM : lkM f i to with
  | some q => exact (lk_MS hi hM).symm
  | none =>
    cases hS : lkS f i to with
    | none => rfl
    | some q => rw [lk_SM hi hS] at hM; cases hM
theorem isW_in {f : Nat → Nat} {to : Nat} (hE : f to = 10 ∨ 256 ≤ f to) : ∀ (w : List Nat) i, (∀ c ∈ w, 32 ≤ c ∧ c < 256) → i ≤ to → isW f i w = true → i + w.length ≤ to := by
  intro w
  induction w with
  | nil => intro i _ h _; simpa using h
  | cons c w ih =>
    intro i hw hi h
    simp only [isW, Bool.and_eq_true, beq_iff_eq] at h
    have hc := hw c (List.mem_cons_self ..)
    have : i ≠ to := fun h9 => by subst h9; omega
    have := ih (i + 1) (fun d hd => hw d (List.mem_cons_of_mem _ hd)) (by omega) h.2
    simp only [List.length_cons]
    omega
theorem isW_hd {f : Nat → Nat} {c i : Nat} {w : List Nat} (h : f i ≠ c) : isW f i (c :: w) = false := by
  simp [isW, h]
theorem pc_code {f : Nat → Nat} {i to : Nat} (h : isW f i wCode = true) : pcOne f i to = if (cEnd f (i + 6) (to - (i + 6)) 1).2 = 0 ∧ 1 ≤ (cEnd f (i + 6) (to - (i + 6)) 1).1 - 1 - (i + 6) ∧ (cEnd f (i + 6) (to - (i + 6)) 1).1 - 1 - (i + 6) ≤ 60 then some (1, i + 6, (cEnd f (i + 6) (to - (i + 6)) 1).1 - 1, 0, 0, (cEnd f (i + 6) (to - (i + 6)) 1).1) else none := by
  unfold pcOne
  rw [if_pos h]
theorem pc_link {f : Nat → Nat} {i to : Nat} (h0 : isW f i wCode = false) (h : isW f i wLink = true) : pcOne f i to = (lkS f (i + 6) to).map fun q => (2, q.1, q.2.1, i + 6, q.2.2, q.2.1 + 1) := by
  unfold pcOne lkS
  rw [if_neg (by simp [h0]), if_pos h]
  dsimp only
  split <;> rfl
theorem pc_word {f : Nat → Nat} {i to : Nat} (h0 : isW f i wCode = false) (h : isW f i wLink = false) : pcOne f i to = if i < sc (fun j => f j == 32 || f j == 123 || f j == 125) i (to - i) then some (0, i, sc (fun j => f j == 32 || f j == 123 || f j == 125) i (to - i), 0, 0, sc (fun j => f j == 32 || f j == 123 || f j == 125) i (to - i)) else none := by
  unfold pcOne
  rw [if_neg (by simp [h0]), if_neg (by simp [h])]
theorem pc_w1 {f : Nat → Nat} {i to : Nat} (hi : i < to) (h1 : f i ≠ 123) : pcOne f i to = if f i = 32 ∨ f i = 125 then none else some (0, i, sc (fun j => f j == 32 || f j == 123 || f j == 125) i (to - i), 0, 0, sc (fun j => f j == 32 || f j == 123 || f j == 125) i (to - i)) := by
  rw [pc_word (isW_hd h1) (isW_hd h1)]
  have a := sc_ge (fun j => f j == 32 || f j == 123 || f j == 125) (to - i) i
  have b := sc_no (fun j => f j == 32 || f j == 123 || f j == 125) (to - i) i
  have c := sc_at (fun j => f j == 32 || f j == 123 || f j == 125) (to - i) i
  by_cases h : f i = 32 ∨ f i = 125
  · rw [if_pos h, if_neg]
    intro h9
    have := b i (Nat.le_refl _) h9
    simp at this
    omega
  · rw [if_neg h, if_pos]
    refine Decidable.byContradiction fun h9 => ?_
    have e : sc (fun j => f j == 32 || f j == 123 || f j == 125) i (to - i) = i := by omega
    have := c (by omega)
    rw [e] at this
    simp at this
    omega
theorem pc_no {f : Nat → Nat} {i to : Nat} (h1 : f i = 123) (hi : i < to) (h0 : isW f i wCode = false) (h : isW f i wLink = false) : pcOne f i to = none := by
  rw [pc_word h0 h, if_neg]
  intro h9
  have b := sc_no (fun j => f j == 32 || f j == 123 || f j == 125) (to - i) i i (Nat.le_refl _) h9
  simp [h1] at b
theorem cEnd_ge (f : Nat → Nat) : ∀ k i o, i ≤ (cEnd f i k o).1 ∧ (cEnd f i k o).1 ≤ i + k ∧ (cEnd f i k o).2 ≤ o + k ∧ ((cEnd f i k o).2 = 0 → 0 < o → i < (cEnd f i k o).1) := by
  intro k
  induction k with
  | zero => intro i o; simp only [cEnd]; omega
  | succ k ih =>
    intro i o
    rw [cEnd]
    by_cases h0 : o = 0
    · rw [if_pos h0]
      dsimp only
      omega
    · rw [if_neg h0]
      have := ih (i + 1) (if f i = 123 then o + 1 else if f i = 125 then o - 1 else o)
      have h2 : (if f i = 123 then o + 1 else if f i = 125 then o - 1 else o) ≤ o + 1 := by
        split
        · omega
        · split <;> omega
      generalize (if f i = 123 then o + 1 else if f i = 125 then o - 1 else o) = o2 at this h2 ⊢
      exact ⟨by omega, by omega, by omega, fun _ _ => by omega⟩
/-- what a piece's parts keep to -/
theorem pc_le {f : Nat → Nat} {i to : Nat} (hi : i < to) (hE : f to = 10 ∨ 256 ≤ f to) {q : Nat × Nat × Nat × Nat × Nat × Nat} (h : pcOne f i to = some q) : q.1 ≤ 2 ∧ i ≤ q.2.1 ∧ q.2.1 < q.2.2.1 ∧ q.2.2.1 ≤ to ∧ q.2.2.2.1 ≤ q.2.2.2.2.1 ∧ q.2.2.2.2.1 ≤ to ∧ i < q.2.2.2.2.2 ∧ q.2.2.2.2.2 ≤ to ∧ (q.1 = 2 → rfOK f q.2.2.2.1 (q.2.2.2.2.1 - q.2.2.2.1) = true ∧ i ≤ q.2.2.2.1) ∧ q.2.2.2.2.2 = (if q.1 = 0 then q.2.2.1 else q.2.2.1 + 1) ∧ (q.1 ≠ 2 → q.2.2.2.1 = 0 ∧ q.2.2.2.2.1 = 0) ∧ q.2.2.1 - q.2.1 ≤ 600 + to := by
  cases h0 : isW f i wCode with
  | true =>
    have i6 := isW_in hE wCode i (by decide) (by omega) h0
    have i7 : wCode.length = 6 := rfl
    rw [pc_code h0] at h
    have b := cEnd_ge f (to - (i + 6)) (i + 6) 1
    generalize cEnd f (i + 6) (to - (i + 6)) 1 = r at h b
    split at h
    · rename_i hc
      cases h
      dsimp only
      rw [if_neg (by decide)]
      refine ⟨by omega, by omega, by omega, by omega, by omega, by omega, by omega, by omega, fun h9 => absurd h9 (by decide), by omega, fun _ => ⟨rfl, rfl⟩, by omega⟩
    · cases h
  | false =>
    cases h1 : isW f i wLink with
    | true =>
      have i6 := isW_in hE wLink i (by decide) (by omega) h1
      have i7 : wLink.length = 6 := rfl
      rw [pc_link h0 h1] at h
      unfold lkS at h
      dsimp only at h
      have a1 := sc_ge (fun j => f j == 125) (to - (i + 6)) (i + 6)
      generalize sc (fun j => f j == 125) (i + 6) (to - (i + 6)) = cl at a1 h
      have b1 := sc_ge (fun j => f j == 32) (cl - (i + 6)) (i + 6)
      generalize sc (fun j => f j == 32) (i + 6) (cl - (i + 6)) = nt at b1 h
      have c1 := sc_ge (fun j => !(f j == 32)) (cl - nt) nt
      generalize sc (fun j => !(f j == 32)) nt (cl - nt) = lb at c1 h
      split at h
      · rename_i hc
        obtain ⟨h2, h3, h4⟩ := hc
        have h5 := (rfOK_ch h3).1
        cases h
        dsimp only
        have : i + 6 ≤ (if nt = cl then i + 6 else lb) ∧ (if nt = cl then i + 6 else lb) < cl := by
          split <;> omega
        rw [if_neg (show ¬ (2 : Nat) = 0 by decide)]
        exact ⟨by omega, by omega, by omega, by omega, by omega, by omega, by omega, by omega, fun _ => ⟨h3, by omega⟩, by omega, fun h9 => absurd rfl h9, by omega⟩
      · cases h
    | false =>
      rw [pc_word h0 h1] at h
      have a := sc_ge (fun j => f j == 32 || f j == 123 || f j == 125) (to - i) i
      generalize sc (fun j => f j == 32 || f j == 123 || f j == 125) i (to - i) = w at a h
      split at h
      · cases h
        dsimp only
        rw [if_pos rfl]
        refine ⟨by omega, by omega, by omega, by omega, by omega, by omega, by omega, by omega, fun h9 => absurd h9 (by decide), by omega, fun _ => ⟨rfl, rfl⟩, by omega⟩
      · cases h
/-- code and links are shown behind their sign -/
theorem pc_sf {f : Nat → Nat} {i to : Nat} (hi : i < to) (hE : f to = 10 ∨ 256 ≤ f to) {q : Nat × Nat × Nat × Nat × Nat × Nat} (h : pcOne f i to = some q) (h0 : q.1 ≠ 0) : i + 6 ≤ q.2.1 := by
  cases hc : isW f i wCode with
  | true =>
    rw [pc_code hc] at h
    split at h
    · cases h
      exact Nat.le_refl _
    · cases h
  | false =>
    cases h1 : isW f i wLink with
    | true =>
      rw [pc_link hc h1] at h
      unfold lkS at h
      dsimp only at h
      have b1 := sc_ge (fun j => f j == 32) (sc (fun j => f j == 125) (i + 6) (to - (i + 6)) - (i + 6)) (i + 6)
      have c1 := sc_ge (fun j => !(f j == 32)) (sc (fun j => f j == 125) (i + 6) (to - (i + 6)) - sc (fun j => f j == 32) (i + 6) (sc (fun j => f j == 125) (i + 6) (to - (i + 6)) - (i + 6))) (sc (fun j => f j == 32) (i + 6) (sc (fun j => f j == 125) (i + 6) (to - (i + 6)) - (i + 6)))
      split at h
      · cases h
        dsimp only
        split
        · exact Nat.le_refl _
        · omega
      · cases h
    | false =>
      rw [pc_word hc h1] at h
      split at h
      · cases h
        exact absurd rfl h0
      · cases h
end PMSC
