section PCPP
variable {es : List En} {w : Nat} {ls : Bool}
/-- a plan is not too long -/
theorem gT_len (nx : List (Nat × Nat)) (e : Nat) : ∀ m, m ≤ (gC es e).2.1.length → ((List.range' 0 m).flatMap (gX es nx e)).length + ([2, 3, 4, 5, 6].flatMap fun s => tgI es e s 0 m).length ≤ m + (((gC es e).2.1.take m).filter fun b => bSo b == 7).length * nx.length := by
  intro m
  induction m with
  | zero => intro _; simp [tgI]
  | succ m ih =>
    intro hm
    have h1 := ih (by omega)
    have ht : ∀ s, (tgI es e s 0 (m + 1)).length = (tgI es e s 0 m).length + (if bSo ((gC es e).2.1.getD m bkD) = s then 1 else 0) := fun s => by
      unfold tgI
      rw [List.range'_concat, List.flatMap_append, List.length_append]
      simp only [Nat.zero_add, Nat.one_mul, List.flatMap_cons, List.flatMap_nil, List.append_nil]
      split <;> rfl
    simp only [List.flatMap_cons, List.flatMap_nil, List.append_nil, List.length_append] at h1
    rw [List.range'_concat, List.flatMap_append, List.length_append, take_s bkD (by omega), List.filter_append, List.length_append, Nat.add_mul]
    simp only [Nat.zero_add, Nat.one_mul, List.flatMap_cons, List.flatMap_nil, List.append_nil, List.length_append, ht]
    unfold gX at h1 ⊢
    by_cases h7 : bSo ((gC es e).2.1.getD m bkD) = 7
    · rw [if_pos h7, show ([(gC es e).2.1.getD m bkD].filter fun b => bSo b == 7).length = 1 by simp only [List.filter_cons, h7, BEq.rfl, if_true, List.filter_nil, List.length_singleton]]
      rw [if_neg (by omega), if_neg (by omega), if_neg (by omega), if_neg (by omega), if_neg (by omega)]
      omega
    · rw [if_neg h7]
      have h9 : (if isTg (bSo ((gC es e).2.1.getD m bkD)) = true then ([] : List (Nat × Nat)) else [(e, m)]).length + ((if bSo ((gC es e).2.1.getD m bkD) = 2 then 1 else 0) + ((if bSo ((gC es e).2.1.getD m bkD) = 3 then 1 else 0) + ((if bSo ((gC es e).2.1.getD m bkD) = 4 then 1 else 0) + ((if bSo ((gC es e).2.1.getD m bkD) = 5 then 1 else 0) + (if bSo ((gC es e).2.1.getD m bkD) = 6 then 1 else 0))))) ≤ 1 := by
        generalize bSo ((gC es e).2.1.getD m bkD) = b
        by_cases ht : isTg b = true
        · rw [if_pos ht, List.length_nil]
          repeat' split
          all_goals omega
        · rw [if_neg ht, List.length_singleton]
          rw [isTg_iff] at ht
          rw [if_neg (by omega), if_neg (by omega), if_neg (by omega), if_neg (by omega), if_neg (by omega)]
          omega
      omega
theorem pl_len (w0 : wE es) {e : Nat} (he : e < es.length) : (stI es 41 (some e)).length + ([2, 3, 4, 5, 6].flatMap fun s => tgI es e s 0 (gC es e).2.1.length).length ≤ 960 := by
  obtain ⟨c1, _, _, _, c5, _⟩ := gC_bd w0 he
  have h1 := gT_len (es := es) (stI es 40 (inh es e)) e (gC es e).2.1.length (Nat.le_refl _)
  rw [List.take_length] at h1
  have h2 := stI_len w0 40 (inh es e) fun x hx => ((inh_rk w0 he).2 x hx).1
  have h3 := (inh_rk w0 he).1
  have h5 := rk_le w0 (o := some e) fun x hx => by cases hx; exact he
  have h4 : ((gC es e).2.1.filter fun b => bSo b == 7).length * (stI es 40 (inh es e)).length ≤ 1 * (stI es 40 (inh es e)).length := Nat.mul_le_mul_right _ c5
  show ((List.range' 0 (gC es e).2.1.length).flatMap (gX es (stI es 40 (inh es e)) e)).length + _ ≤ _
  omega
/-- lines begin within the page -/
def ouV (o : Ou) : Prop := ∀ c ∈ o.2.1, c ≤ o.1.length
theorem ouL_v {o : Ou} (h : ouV o) (l : List Nat) : ouV (ouL o l) := fun c hc => by
  rw [ouL_len]
  have hc : c ∈ o.2.1 ++ [o.1.length] := hc
  rw [List.mem_append, List.mem_singleton] at hc
  rcases hc with hc | hc
  · have := h c hc
    omega
  · omega
theorem lns_v {c : Ck} {ot : Nat} {t : List (Nat × Nat)} : ∀ m i (o : Ou), ouV o → ouV (lns c ot t m i o) := by
  intro m
  induction m with
  | zero => intro i o h; exact h
  | succ m ih =>
    intro i o h
    rw [lns]
    split
    · exact h
    · exact ih _ _ (ouL_v h _)
theorem layB_v {e : Nat} {m : Cm} {b : Bk} {d : Dr} (h : ouV d.1) : ouV (layB es w ls e m b d).1 := by
  rw [layB_eq]
  dsimp only
  split
  · exact ouL_v h _
  · exact lns_v _ _ _ (ouL_v h _)
theorem layAll_v : ∀ (l : List (Nat × Bk)) ah (d : Dr), ouV d.1 → ouV (layAll es w ls l ah d).1 := by
  intro l
  induction l with
  | nil => intro ah d h; exact h
  | cons x l ih =>
    intro ah d h
    obtain ⟨e, b⟩ := x
    rw [layAll_s]
    refine ih _ _ ?_
    unfold lay1
    refine layB_v ?_
    split
    · exact ouL_v h _
    · exact h
theorem tgts_v : ∀ (l : List Nat) k (o : Ou), ouV o → ouV (tgts es k l o) := by
  intro l
  induction l with
  | nil => intro k o h; exact h
  | cons e l ih =>
    intro k o h
    rw [tgts]
    exact ih _ _ (ouL_v h _)
/-- a page's bounds -/
theorem pgF_w (w0 : wE es) (hw : w ≤ 60) {pl : List (Nat × Nat)} (hl : pl.length ≤ 960) (hv : ∀ q ∈ pl, vI es q) {e : Nat} {d : Dr} (hd : d = layAll es w ls (pl.map (bkI es)) none (pg0 es e)) (h4 : (pgF es d).1.length ≤ 4000) (hb : ∀ c ∈ (pgF es d).1, c < 256) (hT : tOK es.length d.2.1) : wPg (pgF es d) ∧ ∀ c ∈ (pgF es d).2.2.1, c < es.length := by
  have e0 : ouW (pg0 es e).1 := ouL_w (o := ([], [], 0)) ⟨Nat.le_refl _, Nat.le_refl _⟩ _
  have v0 : ouV (pg0 es e).1 := ouL_v (o := ([], [], 0)) (fun c hc => absurd hc (List.not_mem_nil)) _
  obtain ⟨a1, a2, a3⟩ := layAll_len (w := w) (ls := ls) w0 hw pl none (pg0 es e) hv e0
  have a4 := layAll_v (es := es) (w := w) (ls := ls) (pl.map (bkI es)) none (pg0 es e) v0
  rw [← hd] at a1 a3 a4
  have a3 : d.2.2 ≤ 435600 * pl.length := by
    have : (pg0 es e).2.2 = 0 := rfl
    omega
  clear hd a2
  have hn := Nat.le_trans (nd_len _ _ hT.2.1 hT.2.2) hT.1
  have b1 : ouW (if d.2.1 = [] then d.1 else ouL d.1 []) ∧ ouV (if d.2.1 = [] then d.1 else ouL d.1 []) := by
    split
    · exact ⟨a1, a4⟩
    · exact ⟨ouL_w a1 _, ouL_v a4 _⟩
  have c1 := (tgts_len w0 d.2.1 1 _ hT.2.2 b1.1).1
  have c2 := tgts_v (es := es) d.2.1 1 _ b1.2
  unfold pgF at h4 hb ⊢
  dsimp only at h4 hb ⊢
  generalize tgts es 1 d.2.1 (if d.2.1 = [] then d.1 else ouL d.1 []) = o at h4 hb c1 c2 ⊢
  have c3 := c1.1
  have c4 := c1.2
  have h40 := hT.1
  exact ⟨⟨h4, hb, by dsimp only; omega, fun c hc => Nat.le_trans (c2 c hc) h4, hn, fun c hc => Nat.lt_of_lt_of_le (hT.2.2 c hc) h40, by dsimp only; omega, by dsimp only; omega⟩, hT.2.2⟩
end PCPP
