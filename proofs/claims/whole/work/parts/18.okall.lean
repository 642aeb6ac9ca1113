theorem xlookup_mem {α : Type} {l : List (Nat × α)} {k : Nat} {a : α} (h : l.lookup k = some a) : (k, a) ∈ l := by
  induction l with
  | nil => cases h
  | cons q l ih =>
    obtain ⟨k2, b⟩ := q
    unfold List.lookup at h
    split at h
    · rename_i he
      have : k = k2 := by simpa using he
      subst this
      cases h
      exact List.mem_cons_self
    · exact List.mem_cons_of_mem _ (ih h)
theorem xlk_spec {α : Type} {l : List (Nat × α × Nat)} {mi i : Nat} {a : α} (h : xlk l mi i = some a) : i < 2000 ∧ ∃ q, (xunit mi * 2000 + i, a, q) ∈ l := by
  unfold xlk at h
  split at h
  · rename_i hi
    refine ⟨hi, ?_⟩
    cases hl : l.lookup (xunit mi * 2000 + i) with
    | none => rw [hl] at h; cases h
    | some b =>
      rw [hl] at h
      obtain ⟨a2, q⟩ := b
      cases h
      exact ⟨q, xlookup_mem hl⟩
  · cases h
theorem x_entry {α : Type} {l : List α} {ch : α → Bool} {n : Nat} (hl : l.length = n) (hok : ∀ k, k < n → (match l[k]? with | some e => ch e | none => false) = true) {e : α} (he : e ∈ l) : ch e = true := by
  obtain ⟨k, hk⟩ := List.getElem?_of_mem he
  have h1 := hok k (by rw [← hl]; exact (List.getElem?_eq_some_iff.mp hk).1)
  rw [hk] at h1
  exact h1
theorem xM0_lt {mi : Nat} {mt : xMt} (h : xM0[mi]? = some mt) : mi < 235 := (List.getElem?_eq_some_iff.mp h).1
theorem x_unit {mi : Nat} {mt : xMt} (h : xM0[mi]? = some mt) : mt.1.cls = xN0.getD (xunit mi % 100) "" ∧ (100 ≤ xunit mi → mt.1.name = "<init>") := by
  have h1 := xU0_ok mi (xM0_lt h)
  unfold xchU at h1
  rw [h] at h1
  simp only [Bool.and_eq_true, Bool.or_eq_true, decide_eq_true_eq] at h1
  exact ⟨h1.1, fun h2 => h1.2.elim (fun h3 => absurd h3 (by omega)) (fun h3 => h3)⟩
theorem x_key {mi idx : Nat} {mt : xMt} (h : xM0[mi]? = some mt) (hi : idx < 2000) : xown (xunit mi * 2000 + idx) = mt.1.cls ∧ (xunit mi * 2000 + idx) % 2000 = idx := by
  refine ⟨?_, by omega⟩
  unfold xown
  rw [show (xunit mi * 2000 + idx) / 2000 = xunit mi by omega]
  exact (x_unit h).1.symm
theorem x_F (xs : List Int32) : xOKf (xTa xs) xTs xNs := by
  intro mi mt hM idx ci k fl hci h
  replace h : xlk xF0 mi idx = some (ci, k, fl) := h
  replace hM : xM0[mi]? = some mt := hM
  obtain ⟨hi, q, he⟩ := xlk_spec h
  have hc := x_entry (l := xF0) (ch := xchF) (n := 330) (by decide +kernel) (fun k hk => by
    have h9 := xF0_ok k hk
    revert h9
    dsimp only
    cases xF0[k]? <;> exact id) he
  obtain ⟨ho, hm⟩ := x_key hM hi
  have hu2 := (x_unit hM).2
  unfold xchF at hc
  dsimp only at hc
  rw [if_neg (by omega), ho, hm] at hc
  split at hc
  · rename_i C F N hL
    simp only [Bool.and_eq_true, decide_eq_true_eq] at hc
    obtain ⟨⟨⟨⟨c1, c2⟩, c3⟩, c4⟩, c5⟩ := hc
    refine ⟨C, F, N, hL, c1, fun h => ?_, fun h => ?_, c3, fun h => ?_, c5⟩
    · rw [if_neg (by omega)] at c2
      exact xat_mem c2
    · rw [if_pos h] at c2
      exact ⟨_, xatn_mem c2⟩
    · obtain ⟨d1, d2, d3⟩ := c4 h
      exact ⟨d1, hu2 (by omega), d3⟩
  · cases hc
theorem x_Tt (xs : List Int32) : xOKt (xTa xs) xTs := by
  intro mi mt hM idx ci k fl hci h
  replace h : xlk xF0 mi idx = some (ci, k, fl) := h
  replace hM : xM0[mi]? = some mt := hM
  obtain ⟨hi, q, he⟩ := xlk_spec h
  have hc := x_entry (l := xF0) (ch := xchF) (n := 330) (by decide +kernel) (fun k hk => by
    have h9 := xF0_ok k hk
    revert h9
    dsimp only
    cases xF0[k]? <;> exact id) he
  obtain ⟨ho, hm⟩ := x_key hM hi
  unfold xchF at hc
  dsimp only at hc
  rw [if_pos hci, ho, hm] at hc
  exact xat_mem hc
theorem x_Cc (xs : List Int32) : xOKc (xTa xs) xTs := by
  intro mi mt hM idx ci h
  replace h : xlk xC0 mi idx = some ci := h
  replace hM : xM0[mi]? = some mt := hM
  obtain ⟨hi, q, he⟩ := xlk_spec h
  have hc := List.all_eq_true.mp xC0_ok _ he
  obtain ⟨ho, hm⟩ := x_key hM hi
  unfold xchC at hc
  dsimp only at hc
  rw [ho, hm] at hc
  split at hc
  · rename_i C F N hL
    exact ⟨C, F, N, hL, xat_mem hc⟩
  · cases hc
theorem x_Aa (xs : List Int32) : xOKa (xTa xs) xTs xAO := by
  intro mi mt hM idx tg h
  replace h : xlk xA0 mi idx = some tg := h
  replace hM : xM0[mi]? = some mt := hM
  obtain ⟨hi, q, he⟩ := xlk_spec h
  have hc := List.all_eq_true.mp xA0_ok _ he
  obtain ⟨ho, hm⟩ := x_key hM hi
  unfold xchA at hc
  dsimp only at hc
  rw [ho, hm] at hc
  simp only [Bool.and_eq_true, decide_eq_true_eq] at hc
  exact ⟨xat_mem hc.1, hc.2⟩
theorem x_Jj (xs : List Int32) : xOKj (xTa xs) xTs := by
  intro mi mt hM idx v h
  replace h : xlk xJ0 mi idx = some v := h
  replace hM : xM0[mi]? = some mt := hM
  obtain ⟨hi, q, he⟩ := xlk_spec h
  have hc := List.all_eq_true.mp xJ0_ok _ he
  obtain ⟨ho, hm⟩ := x_key hM hi
  unfold xchJ at hc
  dsimp only at hc
  rw [ho, hm] at hc
  exact xat_mem hc
theorem x_code {mi : Nat} {mt : xMt} (hM : xM0[mi]? = some mt) (hlt : mi < 234) : Cond.code mt.1 mt.2.1 mt.2.2.1 mt.2.2.2.1 ∈ xTs := by
  unfold xM0 at hM
  by_cases h0 : mi < 40
  · rw [List.getElem?_append_left h0] at hM
    exact xmc_0 mt (List.mem_of_getElem? hM)
  rw [List.getElem?_append_right (Nat.not_lt.mp h0)] at hM
  by_cases h1 : mi - 40 < 40
  · rw [List.getElem?_append_left h1] at hM
    exact xmc_1 mt (List.mem_of_getElem? hM)
  rw [List.getElem?_append_right (Nat.not_lt.mp h1)] at hM
  by_cases h2 : mi - 40 - 40 < 40
  · rw [List.getElem?_append_left h2] at hM
    exact xmc_2 mt (List.mem_of_getElem? hM)
  rw [List.getElem?_append_right (Nat.not_lt.mp h2)] at hM
  by_cases h3 : mi - 40 - 40 - 40 < 40
  · rw [List.getElem?_append_left h3] at hM
    exact xmc_3 mt (List.mem_of_getElem? hM)
  rw [List.getElem?_append_right (Nat.not_lt.mp h3)] at hM
  by_cases h4 : mi - 40 - 40 - 40 - 40 < 40
  · rw [List.getElem?_append_left h4] at hM
    exact xmc_4 mt (List.mem_of_getElem? hM)
  rw [List.getElem?_append_right (Nat.not_lt.mp h4)] at hM
  have h5 : mi - 40 - 40 - 40 - 40 - 40 < 34 := by omega
  have hM : (xM0_5 ++ xM0_L)[mi - 40 - 40 - 40 - 40 - 40]? = some mt := hM
  rw [List.getElem?_append_left h5] at hM
  exact xmc_5 mt (List.mem_of_getElem? hM)
theorem x_M {mi : Nat} {mt : xMt} (hM : xM0[mi]? = some mt) (hlt : mi < 234) : xOKm xTs mt := by
  have hc := xM0_ok mi hlt
  unfold xchM at hc
  rw [hM] at hc
  split at hc
  · rename_i h1 h2
    cases h1
    simp only [Bool.and_eq_true, decide_eq_true_eq] at hc
    obtain ⟨⟨⟨c1, c2⟩, c3⟩, c4⟩ := hc
    exact ⟨c1, x_code hM hlt, xat_mem c2, c3, c4⟩
  · cases hc
theorem x_V (xs : List Int32) : xOKv (xTa xs) xTs xNs := by
  intro mi mt hM idx kd mj ci h
  replace h : xlk xV0 mi idx = some (kd, mj, ci) := h
  replace hM : xM0[mi]? = some mt := hM
  obtain ⟨hi, q, he⟩ := xlk_spec h
  have hc := x_entry (l := xV0) (ch := xchV) (n := 311) (by decide +kernel) (fun k hk => by
    have h9 := xV0_ok k hk
    revert h9
    dsimp only
    cases xV0[k]? <;> exact id) he
  obtain ⟨ho, hm⟩ := x_key hM hi
  unfold xchV at hc
  dsimp only at hc
  rw [ho, hm] at hc
  refine ⟨fun h6 => ?_, fun h6 => ?_, fun h6 => ?_, fun h6 => ?_, fun h6 => ?_⟩
  · rw [if_pos h6] at hc
    split at hc
    · rename_i mt' qp hM' hp
      simp only [Bool.and_eq_true, Bool.or_eq_true, decide_eq_true_eq] at hc
      obtain ⟨⟨⟨⟨c0, c1⟩, c2⟩, c3⟩, c4⟩ := hc
      refine ⟨mt', hM', x_M hM' c0, fun h => ?_, fun h => ?_, fun h => ?_, fun h => ?_, fun h => ?_⟩
      · rcases c1 with c1 | c1
        · exact absurd h c1
        · refine ⟨xat_mem c1.1.1, xat_mem c1.1.2, ?_⟩
          have c13 := c1.2
          split at c13
          · rename_i C F N hL
            have e1 := of_decide_eq_true c13
            subst e1
            exact ⟨F, N, hL⟩
          · cases c13
      · rcases c2 with c2 | c2
        · exact absurd h c2
        · exact ⟨c2.1.1, xat_mem c2.1.2, c2.2⟩
      · rcases c3 with c3 | c3
        · exact absurd h c3
        · exact xat_mem c3
      · rw [if_pos h] at c4
        exact xat_mem c4
      · rw [if_neg (by omega)] at c4
        exact ⟨_, xatn_mem c4⟩
    · cases hc
  · rw [if_neg (by omega), if_pos h6] at hc
    exact ⟨xat_mem hc, x_oi, x_oc⟩
  · rw [if_neg (by omega), if_neg (by omega), if_pos h6] at hc
    exact ⟨xat_mem hc, x_xs, x_mi, x_xc⟩
  · rw [if_neg (by omega), if_neg (by omega), if_neg (by omega), if_pos h6] at hc
    exact ⟨xat_mem hc, x_ns, x_mi, x_nc⟩
  · rw [if_neg (by omega), if_neg (by omega), if_neg (by omega), if_neg (by omega), if_pos h6] at hc
    split at hc
    · rename_i mt' qp hM' hp
      simp only [Bool.and_eq_true, decide_eq_true_eq] at hc
      obtain ⟨c0, ⟨⟨c1, c2⟩, c3⟩, c4⟩ := hc
      exact ⟨mt', hM', x_M hM' c0, xat_mem c1, xat_mem c2, c3, xat_mem c4⟩
    · cases hc
theorem x_Ll (xs : List Int32) : xOKl (xTa xs) xTs := by
  intro ci C F N h
  replace h : xL0[ci]? = some (C, F, N) := h
  match ci, h with
  | 0, h => cases h; exact xl_0
  | 1, h => cases h; exact xl_1
  | 2, h => cases h; exact xl_2
  | 3, h => cases h; exact xl_3
  | 4, h => cases h; exact xl_4
  | 5, h => cases h; exact xl_5
  | 6, h => cases h; exact xl_6
  | 7, h => cases h; exact xl_7
  | 8, h => cases h; exact xl_8
  | 9, h => cases h; exact xl_9
  | 10, h => cases h; exact xl_10
  | 11, h => cases h; exact xl_11
  | n + 12, h => simp [xL0] at h
theorem x_Ee (xs : List Int32) : xOKe (xTa xs) := by
  intro tg h1 h2
  rcases (show tg = 15 ∨ tg = 16 ∨ tg = 17 ∨ tg = 18 by omega) with rfl | rfl | rfl | rfl <;> exact ⟨_, _, rfl⟩
theorem x_kz : xM0.zip xK0 = (xM0_0.zip xK0_0) ++ ((xM0_1.zip xK0_1) ++ ((xM0_2.zip xK0_2) ++ ((xM0_3.zip xK0_3) ++ ((xM0_4.zip xK0_4) ++ ((xM0_5.zip xK0_5) ++ (xM0_L.zip xK0_L)))))) := by
  unfold xM0 xK0
  rw [List.zip_append (show xM0_0.length = xK0_0.length by decide +kernel), List.zip_append (show xM0_1.length = xK0_1.length by decide +kernel), List.zip_append (show xM0_2.length = xK0_2.length by decide +kernel), List.zip_append (show xM0_3.length = xK0_3.length by decide +kernel), List.zip_append (show xM0_4.length = xK0_4.length by decide +kernel), List.zip_append (show xM0_5.length = xK0_5.length by decide +kernel)]
theorem x_I (xs : List Int32) : xOKi (xTa xs) := by
  intro mi mt hM pc ins len h
  replace h : (xK0.getD mi []).lookup pc = some (ins, len) := h
  replace hM : xM0[mi]? = some mt := hM
  rw [List.getD_eq_getElem?_getD] at h
  cases hk : xK0[mi]? with
  | none => rw [hk] at h; cases h
  | some k =>
    rw [hk] at h
    have h := xlookup_mem h
    have hz : (mt, k) ∈ xM0.zip xK0 := List.mem_of_getElem? (i := mi) (List.getElem?_zip_eq_some.mpr ⟨hM, hk⟩)
    have key : (k.all fun e => decide (decode mt.2.1 e.1 = .ok e.2)) = true := by
      rw [x_kz] at hz
      simp only [List.mem_append] at hz
      rcases hz with hz | hz | hz | hz | hz | hz | hz
      · exact xkd_0 _ hz
      · exact xkd_1 _ hz
      · exact xkd_2 _ hz
      · exact xkd_3 _ hz
      · exact xkd_4 _ hz
      · exact xkd_5 _ hz
      · exact xkd_L _ hz
    have h9 := List.all_eq_true.mp key _ h
    dsimp only at h9
    exact of_decide_eq_true h9
theorem xOK0 (xs : List Int32) : xOK (xTa xs) xTs xNs xAO := ⟨x_I xs, x_F xs, x_Ll xs, x_Cc xs, x_Aa xs, x_arr, x_Ee xs, x_Jj xs, x_V xs, xNs_ok, x_Tt xs, fun w hw => good_of_word (List.mem_filter.mp hw).2⟩
