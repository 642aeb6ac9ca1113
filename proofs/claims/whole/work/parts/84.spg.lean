section PSPG
variable {es : List En} {w : Nat} {ls : Bool}
/-- whether an empty line stands ahead -/
def apart (ah : Option Bk) (b : Bk) : Bool := match ah with
  | none => true
  | some a => if isTg (bSo b) = true then !isTg (bSo a) else !bJo b
/-- one block of a page -/
def lay1 (es : List En) (w : Nat) (ls : Bool) (ap : Bool) (e : Nat) (b : Bk) (d : Dr) : Dr := layB es w ls e (gC es e) b (if ap = true then (ouL d.1 [], d.2) else d)
theorem layAll_s (e : Nat) (b : Bk) (q : List (Nat × Bk)) (ah : Option Bk) (d : Dr) : layAll es w ls ((e, b) :: q) ah d = layAll es w ls q (some b) (lay1 es w ls (apart ah b) e b d) := rfl
def lastA : List (Nat × Bk) → Option Bk → Option Bk
  | [], ah => ah
  | x :: q, _ => lastA q (some x.2)
theorem layAll_app : ∀ (q1 q2 : List (Nat × Bk)) ah d, layAll es w ls (q1 ++ q2) ah d = layAll es w ls q2 (lastA q1 ah) (layAll es w ls q1 ah d) := by
  intro q1
  induction q1 with
  | nil => intro q2 ah d; rfl
  | cons x q1 ih =>
    intro q2 ah d
    obtain ⟨e, b⟩ := x
    rw [List.cons_append, layAll_s, layAll_s, ih]
    rfl
theorem lastA_app : ∀ (q1 q2 : List (Nat × Bk)) ah, lastA (q1 ++ q2) ah = lastA q2 (lastA q1 ah) := by
  intro q1
  induction q1 with
  | nil => intro q2 ah; rfl
  | cons x q1 ih => intro q2 ah; exact ih q2 _
/-- a block by its number -/
abbrev bkI (es : List En) (q : Nat × Nat) : Nat × Bk := (q.1, (gC es q.1).2.1.getD q.2 bkD)
/-- numbers of blocks that may be laid out -/
def vI (es : List En) (q : Nat × Nat) : Prop := q.1 < es.length ∧ q.2 < (gC es q.1).2.1.length ∧ bSo ((gC es q.1).2.1.getD q.2 bkD) ≠ 7
theorem lay1_len (w0 : wE es) (hw : w ≤ 60) {q : Nat × Nat} (hq : vI es q) (ap : Bool) {d : Dr} (ho : ouW d.1) : ouW (lay1 es w ls ap q.1 ((gC es q.1).2.1.getD q.2 bkD) d).1 ∧ d.1.1.length ≤ (lay1 es w ls ap q.1 ((gC es q.1).2.1.getD q.2 bkD) d).1.1.length ∧ (lay1 es w ls ap q.1 ((gC es q.1).2.1.getD q.2 bkD) d).1.1.length ≤ d.1.1.length + 120001 ∧ (lay1 es w ls ap q.1 ((gC es q.1).2.1.getD q.2 bkD) d).2.2 ≤ d.2.2 + 435600 := by
  unfold lay1
  cases ap with
  | false =>
    rw [if_neg (show ¬ false = true by decide)]
    obtain ⟨a, b, x, y⟩ := layB_len (ls := ls) w0 hq.1 hq.2.1 hw ho
    generalize layB es w ls q.1 (gC es q.1) ((gC es q.1).2.1.getD q.2 bkD) d = X at a b x y ⊢
    exact ⟨a, b, by omega, y⟩
  | true =>
    rw [if_pos (Eq.refl true)]
    have e1 : (ouL d.1 []).1.length = d.1.1.length + 1 := ouL_len (o := d.1) []
    obtain ⟨d2, hd2⟩ : ∃ d2 : Dr, d2 = (ouL d.1 [], d.2) := ⟨_, rfl⟩
    have h1 : d2.1.1.length = d.1.1.length + 1 := by rw [hd2]; exact e1
    have h2 : d2.2.2 = d.2.2 := by rw [hd2]
    have h3 : ouW d2.1 := by rw [hd2]; exact ouL_w ho []
    rw [← hd2]
    obtain ⟨a, b, x, y⟩ := layB_len (ls := ls) w0 hq.1 hq.2.1 hw h3
    generalize layB es w ls q.1 (gC es q.1) ((gC es q.1).2.1.getD q.2 bkD) d2 = X at a b x y ⊢
    exact ⟨a, by omega, by omega, by omega⟩
theorem layAll_len (w0 : wE es) (hw : w ≤ 60) : ∀ (l : List (Nat × Nat)) ah (d : Dr), (∀ q ∈ l, vI es q) → ouW d.1 → ouW (layAll es w ls (l.map (bkI es)) ah d).1 ∧ d.1.1.length ≤ (layAll es w ls (l.map (bkI es)) ah d).1.1.length ∧ (layAll es w ls (l.map (bkI es)) ah d).2.2 ≤ d.2.2 + 435600 * l.length := by
  intro l
  induction l with
  | nil => intro ah d _ ho; exact ⟨ho, Nat.le_refl _, Nat.le_add_right _ _⟩
  | cons q l ih =>
    intro ah d hl ho
    obtain ⟨a, b, x, y⟩ := lay1_len (w := w) (ls := ls) w0 hw (hl q (List.mem_cons_self ..)) (apart ah ((gC es q.1).2.1.getD q.2 bkD)) ho
    rw [List.map_cons, layAll_s]
    generalize lay1 es w ls (apart ah ((gC es q.1).2.1.getD q.2 bkD)) q.1 ((gC es q.1).2.1.getD q.2 bkD) d = X at a b x y ⊢
    obtain ⟨p, r, s⟩ := ih (some ((gC es q.1).2.1.getD q.2 bkD)) X (fun x hx => hl x (List.mem_cons_of_mem _ hx)) a
    generalize layAll es w ls (l.map (bkI es)) (some ((gC es q.1).2.1.getD q.2 bkD)) X = Y at p r s ⊢
    refine ⟨p, Nat.le_trans b r, ?_⟩
    rw [List.length_cons]
    omega
/-- the story's blocks -/
theorem gX_mem {nx : List (Nat × Nat)} {e k : Nat} {q : Nat × Nat} (h : q ∈ gX es nx e k) : q ∈ nx ∨ (q = (e, k) ∧ bSo ((gC es e).2.1.getD k bkD) ≠ 7 ∧ isTg (bSo ((gC es e).2.1.getD k bkD)) = false) := by
  unfold gX at h
  split at h
  · exact Or.inl h
  · rename_i h7
    split at h
    · exact absurd h (by simp)
    · rename_i ht
      rw [List.mem_singleton] at h
      exact Or.inr ⟨h, h7, Bool.eq_false_iff.mpr ht⟩
theorem stI_v (w0 : wE es) : ∀ n (o : Option Nat), (∀ e, o = some e → e < es.length) → ∀ q ∈ stI es n o, vI es q ∧ isTg (bSo ((gC es q.1).2.1.getD q.2 bkD)) = false := by
  intro n
  induction n with
  | zero => intro o _ q hq; exact absurd hq (by simp [stI])
  | succ n ih =>
    intro o ho q hq
    cases o with
    | none => exact absurd hq (by simp [stI])
    | some e =>
      have he := ho e rfl
      rw [stI, List.mem_flatMap] at hq
      obtain ⟨k, hk, hq⟩ := hq
      rw [List.mem_range'_1] at hk
      rcases gX_mem hq with h | ⟨rfl, h1, h2⟩
      · exact ih _ (fun x hx => ((inh_rk w0 he).2 x hx).1) q h
      · exact ⟨⟨he, by show k < (gC es e).2.1.length; omega, h1⟩, h2⟩
/-- the first block of a story is not joined -/
theorem stI_hd (w0 : wE es) : ∀ n (o : Option Nat), (∀ e, o = some e → e < es.length) → ∀ q l, stI es n o = q :: l → bJo ((gC es q.1).2.1.getD q.2 bkD) = false := by
  intro n
  induction n with
  | zero => intro o _ q l h; cases h
  | succ n ih =>
    intro o ho q l h
    cases o with
    | none => cases h
    | some e =>
      have he := ho e rfl
      have hj : jOK (gC es e).2.1 := by
        unfold gC
        cases hc : eCm (gE es e) with
        | none => exact fun i hi => absurd hi (Nat.not_lt_zero _)
        | some c => exact ((w0.2 e he).2.2.2.2.2.2.2.2 c hc).2.2.2.2.2.2.2.2.1
      have key : ∀ m k, k + m = (gC es e).2.1.length → (k = 0 ∨ bSo ((gC es e).2.1.getD (k - 1) bkD) ≠ 1) → ∀ q l, (List.range' k m).flatMap (gX es (stI es n (cnt es 40 (abv es e))) e) = q :: l → bJo ((gC es q.1).2.1.getD q.2 bkD) = false := by
        intro m
        induction m with
        | zero => intro k _ _ q l h; cases h
        | succ m ihm =>
          intro k hk hp q l h
          rw [List.range'_succ, List.flatMap_cons] at h
          unfold gX at h
          by_cases h7 : bSo ((gC es e).2.1.getD k bkD) = 7
          · rw [if_pos h7] at h
            cases hn : stI es n (cnt es 40 (abv es e)) with
            | nil =>
              rw [hn, List.nil_append] at h
              refine ihm (k + 1) (by omega) (Or.inr ?_) q l (by rw [hn]; exact h)
              rw [Nat.add_sub_cancel, h7]
              decide
            | cons q2 l2 =>
              rw [hn, List.cons_append] at h
              have h1 := (List.cons.inj h).1
              rw [← h1]
              exact ih _ (fun x hx => ((inh_rk w0 he).2 x hx).1) q2 l2 hn
          · rw [if_neg h7] at h
            by_cases ht : isTg (bSo ((gC es e).2.1.getD k bkD)) = true
            · rw [if_pos ht, List.nil_append] at h
              refine ihm (k + 1) (by omega) (Or.inr ?_) q l h
              rw [Nat.add_sub_cancel]
              have := isTg_iff.mp ht
              omega
            · rw [if_neg ht, List.singleton_append] at h
              cases h
              dsimp only
              cases hb : bJo ((gC es e).2.1.getD k bkD) with
              | false => rfl
              | true =>
                obtain ⟨j1, j2⟩ := hj k (by omega) hb
                rcases hp with hp | hp
                · omega
                · exact absurd j2 hp
      rw [stI] at h
      exact key (gC es e).2.1.length 0 (by omega) (Or.inl rfl) q l h
/-- the tags of an entry, of one sort -/
def tgI (es : List En) (e s k m : Nat) : List (Nat × Nat) := (List.range' k m).flatMap fun k => if bSo ((gC es e).2.1.getD k bkD) = s then [(e, k)] else []
theorem tags_I (e : Nat) : tags es (some e) = ([2, 3, 4, 5, 6].flatMap fun s => tgI es e s 0 (gC es e).2.1.length).map (bkI es) := by
  unfold tags tgI
  dsimp only
  rw [List.map_flatMap]
  congr 1
  funext s
  rw [List.map_flatMap]
  have : ∀ l : List Bk, ((l.filter fun b => bSo b == s).map fun b => (e, b)) = l.flatMap fun b => if bSo b = s then [(e, b)] else [] := by
    intro l
    induction l with
    | nil => rfl
    | cons b l ih =>
      rw [List.filter_cons, List.flatMap_cons, ← ih]
      by_cases h : bSo b = s
      · rw [if_pos (by simpa using h), if_pos h]
        rfl
      · rw [if_neg (by simpa using h), if_neg h]
        rfl
  rw [this, flatMap_range _ bkD]
  congr 1
  funext k
  split <;> rfl
theorem tgI_v {e s k m : Nat} (he : e < es.length) (hm : k + m ≤ (gC es e).2.1.length) (hs : 2 ≤ s ∧ s ≤ 6) : ∀ q ∈ tgI es e s k m, vI es q ∧ isTg (bSo ((gC es q.1).2.1.getD q.2 bkD)) = true := by
  intro q hq
  unfold tgI at hq
  rw [List.mem_flatMap] at hq
  obtain ⟨j, hj, hq⟩ := hq
  rw [List.mem_range'_1] at hj
  split at hq
  · rename_i hb
    rw [List.mem_singleton] at hq
    subst hq
    refine ⟨⟨he, by show j < (gC es e).2.1.length; omega, by show bSo ((gC es e).2.1.getD j bkD) ≠ 7; omega⟩, ?_⟩
    dsimp only
    rw [hb]
    exact isTg_iff.mpr hs
  · exact absurd hq (by simp)
theorem tgts_len (w0 : wE es) : ∀ (l : List Nat) k (o : Ou), (∀ e ∈ l, e < es.length) → ouW o → ouW (tgts es k l o) ∧ o.1.length ≤ (tgts es k l o).1.length := by
  intro l
  induction l with
  | nil => intro k o _ ho; exact ⟨ho, Nat.le_refl _⟩
  | cons e l ih =>
    intro k o hl ho
    rw [tgts]
    have := ih (k + 1) (ouL o ((if 9 < k then [91, 48 + k / 10, 48 + k % 10, 93] else [91, 48 + k % 10, 93]) ++ [32] ++ eNam es e)) (fun x hx => hl x (List.mem_cons_of_mem _ hx)) (ouL_w ho _)
    rw [ouL_len] at this
    exact ⟨this.1, by omega⟩
theorem eNam_len (w0 : wE es) {e : Nat} (he : e < es.length) : (eNam es e).length ≤ 21 := by
  have h1 := (nmOK_NB (w0.2 e he).2.2.2.1).2.1
  unfold eNam
  cases ho : eOw (gE es e) with
  | none => dsimp only; omega
  | some o =>
    have h2 := ((w0.2 e he).1 o ho).1
    have h3 := (nmOK_NB (w0.2 o (by omega)).2.2.2.1).2.1
    dsimp only
    rw [List.length_append, List.length_append, List.length_singleton]
    omega
end PSPG
