section PMPC
theorem nar0 : vp_nar .boolean 0 = bZ false := bZ_n (b := false)
theorem nar1 : vp_nar .boolean 1 = bZ true := bZ_n (b := true)
theorem sP_eq {S : mS} {k : Nat} {v : Int32} : (sPut S k v).1 k = v := if_pos rfl
theorem sP_ne {S : mS} {k j : Nat} {v : Int32} (h : j ≠ k) : (sPut S k v).1 j = S.1 j := if_neg h
theorem sP_2 {S : mS} {k j n : Nat} {v : Int32} : (sPut S k v).2 j n = S.2 j n := congrFun (congrFun (show (sPut S k v).2 = S.2 from rfl) j) n
theorem sS_eq {S : mS} {k i : Nat} {v : Int32} : (sSet S k i v).2 k i = v := if_pos ⟨rfl, rfl⟩
theorem sS_e2 {S : mS} {k i j : Nat} {v : Int32} (h : j = i) : (sSet S k i v).2 k j = v := if_pos ⟨rfl, h⟩
theorem sS_ne {S : mS} {k i j n : Nat} {v : Int32} (h : j ≠ k ∨ n ≠ i) : (sSet S k i v).2 j n = S.2 j n := if_neg fun h9 => by omega
theorem sS_1 {S : mS} {k i j : Nat} {v : Int32} : (sSet S k i v).1 j = S.1 j := congrFun (show (sSet S k i v).1 = S.1 from rfl) j
theorem aF_df {J K : List Nat} {S S' : mS} {q off N : Nat} {f : Nat → Nat} (D : df J K S S') (h : q ∉ K) (A : aF S q off f N) : aF S' q off f N := ⟨A.1, A.2.1, fun i hi => ⟨(A.2.2 i hi).1, by rw [D.2 q h]; exact (A.2.2 i hi).2⟩⟩
variable {S : mS} {f : Nat → Nat} {N to : Nat}
theorem g171_j (A : aF S 12 24000 f N) (hl : S.1 37 = nI to) (ht : to ≤ N) (hE : f to = 10 ∨ 256 ≤ f to) {i : Nat} (hi : i < to) (hc : isW f i wCode = false) (hk : isW f i wLink = true) : ∃ S', g171 (nI i) S = some (pcI (pcOne f i to), S') ∧ df brJ [] S S' ∧ ∀ q, pcOne f i to = some q → brP S' q := by
  have hN := A.n600
  have i6 := isW_in hE wLink i (by decide) (by omega) hk
  rw [show wLink.length = 6 from rfl] at i6
  have e1 : g168 (nI i) 135667000829216 6 S = some (bZ (isW f i wCode), S) := g168_w (w := wCode) A hl ht hE lw_code (by omega)
  have e2 : g168 (nI i) 135705555528480 6 S = some (bZ (isW f i wLink), S) := g168_w (w := wLink) A hl ht hE lw_link (by omega)
  rw [pc_link hc hk, ← lk_eq i6]
  unfold g171
  rw [e1, hc]
  simp only [bS]
  rw [if_pos bZf, e2, hk]
  simp only [bS]
  rw [if_neg (by decide), show nI i + 6 = nI (i + 6) by rw [lt_6, nI_add]]
  have e3 : g163 12 (24000 + (sPut S 42 (nI (i + 6))).1 42) (24000 + (sPut S 42 (nI (i + 6))).1 37) (sPut S 42 (nI (i + 6))) = some (nI (rfAt f (i + 6) to), sPut S 42 (nI (i + 6))) := by
    rw [sP_eq, sP_ne (by decide), hl, lt_24000, nI_add, nI_add]
    exact g163_s (show aF (sPut S 42 _) 12 24000 f N from A) (by omega) ht
  rw [e3]
  simp only [bS]
  have r1 := rfAt_le f (i := i + 6) (e := to) i6
  unfold lkM
  generalize rfAt f (i + 6) to = R at r1 ⊢
  have D1 : df brJ [] S (sPut (sPut S 42 (nI (i + 6))) 43 (nI R)) := (df.put (by decide)).tr (df.put (by decide))
  have p43 : (sPut (sPut S 42 (nI (i + 6))) 43 (nI R)).1 43 = nI R := rfl
  have p42 : (sPut (sPut S 42 (nI (i + 6))) 43 (nI R)).1 42 = nI (i + 6) := rfl
  have p37 : (sPut (sPut S 42 (nI (i + 6))) 43 (nI R)).1 37 = nI to := hl
  have A1 : aF (sPut (sPut S 42 (nI (i + 6))) 43 (nI R)) 12 24000 f N := A
  generalize sPut (sPut S 42 (nI (i + 6))) 43 (nI R) = S1 at D1 p43 p42 p37 A1 ⊢
  rw [p43, p42, p37, nI_add]
  by_cases h0 : R = 0
  · rw [if_pos (by rw [h0]; rfl), if_pos (Or.inl h0)]
    exact ⟨_, rfl, D1, fun q hq => by cases hq⟩
  rw [if_neg (nI_ne0 (by omega) (by omega))]
  by_cases h1 : i + 6 + R = to
  · rw [if_pos (by rw [h1]), if_pos (Or.inr h1)]
    exact ⟨_, rfl, D1, fun q hq => by cases hq⟩
  rw [if_neg fun h9 => h1 ((nI_eq (by omega) (by omega)).mp h9), if_neg (show ¬ (R = 0 ∨ i + 6 + R = to) by omega)]
  have D2 : df brJ [] S (sPut (sPut S1 40 (nI (i + 6))) 41 ((sPut S1 40 (nI (i + 6))).1 43)) := D1.tr ((df.put (by decide)).tr (df.put (by decide)))
  have q40 : (sPut (sPut S1 40 (nI (i + 6))) 41 ((sPut S1 40 (nI (i + 6))).1 43)).1 40 = nI (i + 6) := rfl
  have q41 : (sPut (sPut S1 40 (nI (i + 6))) 41 ((sPut S1 40 (nI (i + 6))).1 43)).1 41 = nI R := p43
  have q43 : (sPut (sPut S1 40 (nI (i + 6))) 41 ((sPut S1 40 (nI (i + 6))).1 43)).1 43 = nI R := p43
  have q42 : (sPut (sPut S1 40 (nI (i + 6))) 41 ((sPut S1 40 (nI (i + 6))).1 43)).1 42 = nI (i + 6) := p42
  have q37 : (sPut (sPut S1 40 (nI (i + 6))) 41 ((sPut S1 40 (nI (i + 6))).1 43)).1 37 = nI to := p37
  have A2 : aF (sPut (sPut S1 40 (nI (i + 6))) 41 ((sPut S1 40 (nI (i + 6))).1 43)) 12 24000 f N := A1
  generalize sPut (sPut S1 40 (nI (i + 6))) 41 ((sPut S1 40 (nI (i + 6))).1 43) = S2 at D2 q40 q41 q43 q42 q37 A2 ⊢
  have ck := (A.2.2 (i + 6 + R) (by omega)).1
  rw [g167_s A2 (by omega)]
  simp only [bS]
  by_cases h32 : f (i + 6 + R) = 32
  · rw [if_pos (by rw [h32]; rfl), if_pos h32, g169_s A2 q37 ht (by omega)]
    simp only [bS]
    have s1 := sc_ge (fun j => !(f j == 32)) (to - (i + 6 + R)) (i + 6 + R)
    rw [show sc (fun j => !(f j == 32)) (i + 6 + R) (to - (i + 6 + R)) = skp f (i + 6 + R) to from rfl] at s1
    generalize skp f (i + 6 + R) to = s at s1 ⊢
    have A3 : aF (sPut S2 40 (nI s)) 12 24000 f N := A2
    rw [sP_eq, g171_l A3 q37 ht (nI i) (by omega)]
    have z1 := sc_ge (fun j => f j == 123 || f j == 125) (to - s) s
    generalize sc (fun j => f j == 123 || f j == 125) s (to - s) = z at z1 ⊢
    unfold gj171_269
    rw [sP_eq, pk_sub z1.1]
    simp only [bS]
    rw [sP_eq, g141_s]
    have e4 : decide ((1 : Int32) ≤ nI (z - s) ∧ nI (z - s) ≤ 60) = decide (1 ≤ z - s ∧ z - s ≤ 60) := by
      rw [show (1 : Int32) = nI 1 from rfl, lt_60]
      simp (disch := omega) only [nI_leI]
    rw [e4]
    simp only [bS, bZ_0]
    have D4 : df brJ [] S (sPut (sPut S2 40 (nI s)) 41 (nI (z - s))) := D2.tr ((df.put (by decide)).tr (df.put (by decide)))
    have A4 : aF (sPut (sPut S2 40 (nI s)) 41 (nI (z - s))) 12 24000 f N := A2
    by_cases h2 : 1 ≤ z - s ∧ z - s ≤ 60
    · rw [decide_eq_true h2, if_neg (by decide), nI_s1 (show 0 < z by omega), g167_s A4 (by omega)]
      simp only [bS]
      have cz := (A.2.2 (z - 1) (by omega)).1
      by_cases h3 : f (z - 1) = 32
      · rw [if_pos (by rw [h3]; rfl), if_neg fun h9 => h9.2.2.1 h3]
        exact ⟨_, rfl, D4, fun q hq => by cases hq⟩
      · rw [if_neg (show ¬ _ = (32 : Int32) from nI_ne h3 (by omega) (by decide))]
        unfold gj171_306
        simp only [bS]
        have D5 : df brJ [] S (sPut (sPut (sPut S2 40 (nI s)) 41 (nI (z - s))) 39 (nI z + 1)) := D4.tr (df.put (by decide))
        have A5 : aF (sPut (sPut (sPut S2 40 (nI s)) 41 (nI (z - s))) 39 (nI z + 1)) 12 24000 f N := A2
        have t5 : (sPut (sPut (sPut S2 40 (nI s)) 41 (nI (z - s))) 39 (nI z + 1)).1 37 = nI to := q37
        rw [t5]
        by_cases h4 : to ≤ z
        · rw [if_pos (nI_le h4 (by omega)), if_neg fun h9 => by omega]
          exact ⟨_, rfl, D5, fun q hq => by cases hq⟩
        · have cz := (A.2.2 z (by omega)).1
          rw [if_neg (nI_ge (by omega) (by omega)), g167_s A5 (by omega)]
          simp only [bS]
          by_cases h5 : f z = 125
          · rw [if_pos (by rw [h5]; rfl), if_pos ⟨h2.1, h2.2, h3, by omega, h5⟩]
            refine ⟨_, rfl, D5, fun q hq => ?_⟩
            cases hq
            refine ⟨rfl, rfl, nI_1 z, fun _ => ⟨q42, ?_⟩⟩
            show S2.1 43 = nI (i + 6 + R - (i + 6))
            rw [q43, Nat.add_sub_cancel_left]
          · rw [if_neg (show ¬ _ = (125 : Int32) from nI_ne h5 (by omega) (by decide)), if_neg fun h9 => h5 h9.2.2.2.2]
            exact ⟨_, rfl, D5, fun q hq => by cases hq⟩
    · rw [decide_eq_false h2, if_pos rfl, if_neg fun h9 => h2 ⟨h9.1, h9.2.1⟩]
      exact ⟨_, rfl, D4, fun q hq => by cases hq⟩
  · rw [if_neg (show ¬ _ = (32 : Int32) from nI_ne h32 (by omega) (by decide)), if_neg h32]
    unfold gj171_306
    simp only [bS]
    have D5 : df brJ [] S (sPut S2 39 (nI (i + 6 + R) + 1)) := D2.tr (df.put (by decide))
    have A5 : aF (sPut S2 39 (nI (i + 6 + R) + 1)) 12 24000 f N := A2
    have t5 : (sPut S2 39 (nI (i + 6 + R) + 1)).1 37 = nI to := q37
    rw [t5, if_neg (nI_ge (by omega) (by omega)), g167_s A5 (by omega)]
    simp only [bS]
    by_cases h5 : f (i + 6 + R) = 125
    · rw [if_pos (by rw [h5]; rfl), if_pos h5]
      refine ⟨_, rfl, D5, fun q hq => ?_⟩
      cases hq
      refine ⟨q40, ?_, nI_1 _, fun _ => ⟨q42, ?_⟩⟩
      · show S2.1 41 = nI (i + 6 + R - (i + 6))
        rw [q41, Nat.add_sub_cancel_left]
      · show S2.1 43 = nI (i + 6 + R - (i + 6))
        rw [q43, Nat.add_sub_cancel_left]
    · rw [if_neg (show ¬ _ = (125 : Int32) from nI_ne h5 (by omega) (by decide)), if_neg h5]
      exact ⟨_, rfl, D5, fun q hq => by cases hq⟩
theorem g171_s (A : aF S 12 24000 f N) (hl : S.1 37 = nI to) (ht : to ≤ N) (hE : f to = 10 ∨ 256 ≤ f to) {i : Nat} (hi : i < to) (h1 : f i = 123) : ∃ S', g171 (nI i) S = some (pcI (pcOne f i to), S') ∧ df brJ [] S S' ∧ ∀ q, pcOne f i to = some q → brP S' q := by
  cases hc : isW f i wCode with
  | true => exact g171_k A hl ht hE hi hc
  | false =>
    cases hk : isW f i wLink with
    | true => exact g171_j A hl ht hE hi hc hk
    | false => exact g171_n A hl ht hE hi h1 hc hk
theorem g172_s (A : aF S 12 24000 f N) (hl : S.1 37 = nI to) (ht : to ≤ N) (hE : f to = 10 ∨ 256 ≤ f to) {i : Nat} (hi : i < to) (h32 : f i ≠ 32) : ∃ S', g172 (nI i) S = some (bZ (pcOne f i to).isNone, S') ∧ df brJ [] S S' := by
  have hN := A.n600
  have c := (A.2.2 i (by omega)).1
  unfold g172
  simp (disch := omega) only [g167_s A, bS, lt_125, lt_123, nI_eq]
  by_cases h1 : f i = 125
  · rw [if_pos h1, pc_w1 hi (by omega), if_pos (Or.inr h1)]
    exact ⟨S, rfl, df.rfl'⟩
  · rw [if_neg h1]
    by_cases h2 : f i = 123
    · rw [if_pos h2]
      obtain ⟨S', e1, e2, _⟩ := g171_s A hl ht hE hi h2
      rw [e1]
      simp only [bS]
      cases hq : pcOne f i to with
      | none => exact ⟨S', rfl, e2⟩
      | some q =>
        have := (pc_le hi hE hq).1
        show ∃ S'_1, (if nI q.1 = -1 then gj172_29 (nI i) S' else gj172_33 (nI i) S') = _ ∧ _
        rw [if_neg (nI_nm (by omega))]
        exact ⟨S', rfl, e2⟩
    · rw [if_neg h2, pc_w1 hi h2, if_neg (by omega)]
      exact ⟨S, rfl, df.rfl'⟩
/-- a block with m pieces more -/
def bPlus (b : Bk) (m : Nat) : Bk := (bSo b, bPl b, bDe b, bFi b, bMa b + m, bNf b, bNt b, bJo b)
def upR (r : Rd) (ps : List Pc) : Rd := (r.1.dropLast ++ [bPlus (lastB r) (ps.length - r.2.length)], ps)
theorem rdPcs_eq {i : Nat} {r : Rd} : rdPcs f to i r = (upR r (pcs f to 700 (skp f i to) false r.2).1, (pcs f to 700 (skp f i to) false r.2).2) := rfl
theorem lastB_g {r : Rd} (h : 0 < r.1.length) : lastB r = r.1.getD (r.1.length - 1) bkD := by
  unfold lastB
  rw [List.getLastD_eq_getLast?, List.getLast?_eq_getElem?, List.getD_eq_getElem?_getD]
theorem upR_len {r : Rd} {ps : List Pc} (h : 0 < r.1.length) : (upR r ps).1.length = r.1.length := by
  simp [upR]
  omega
theorem upR_get {r : Rd} {ps : List Pc} {k : Nat} (hk : k < r.1.length) : (upR r ps).1.getD k bkD = if k = r.1.length - 1 then bPlus (lastB r) (ps.length - r.2.length) else r.1.getD k bkD := by
  simp only [upR, List.getD_eq_getElem?_getD, List.getElem?_append, List.length_dropLast]
  by_cases h : k = r.1.length - 1
  · rw [if_pos h, if_neg (by omega), h]
    simp
  · rw [if_neg h, if_pos (by omega), List.getElem?_dropLast, if_pos (by omega)]
theorem upR_0 {r : Rd} (h : 0 < r.1.length) : upR r r.2 = r := by
  unfold upR
  have h1 : r.1 ≠ [] := fun h9 => by rw [h9] at h; exact absurd h (by decide)
  have e : bPlus (lastB r) (r.2.length - r.2.length) = r.1.getLast h1 := by
    rw [Nat.sub_self]
    unfold bPlus lastB
    rw [List.getLastD_eq_getLast?, List.getLast?_eq_some_getLast h1]
    rfl
  rw [e, List.dropLast_concat_getLast h1]
theorem upR_up {r : Rd} {ps qs : List Pc} (h : 0 < r.1.length) (h1 : r.2.length ≤ ps.length) (h2 : ps.length ≤ qs.length) : upR (upR r ps) qs = upR r qs := by
  unfold upR lastB
  simp only [List.dropLast_concat, List.getLastD_concat]
  unfold bPlus
  simp only [bSo, bPl, bDe, bFi, bMa, bNf, bNt, bJo]
  rw [show ∀ x : Nat, x + (ps.length - r.2.length) + (qs.length - ps.length) = x + (qs.length - r.2.length) from fun x => by omega]
/-- the frame of reading -/
def rF (J : List Nat) (S S' : mS) : Prop := df J [14, 15, 16, 17, 18, 19, 20, 21, 22, 23, 24, 25, 26, 27, 28, 29, 30] S S' ∧ ∀ e, e < 40 → ag e S S'
theorem rF.rfl' {J : List Nat} {S : mS} : rF J S S := ⟨df.rfl', fun _ _ => ag.rfl'⟩
theorem rF.tr {J : List Nat} {S S1 S2 : mS} (a : rF J S S1) (b : rF J S1 S2) : rF J S S2 := ⟨a.1.tr b.1, fun e he => (a.2 e he).tr (b.2 e he)⟩
theorem rF.put {J : List Nat} {S : mS} {k : Nat} {v : Int32} (h : k ∈ J) : rF J S (sPut S k v) := ⟨df.put h, fun _ _ => ag.put⟩
theorem rF.set {J : List Nat} {S : mS} {k i : Nat} {v : Int32} (h : k ∈ [14, 15, 16, 17, 18, 19, 20, 21, 22, 23, 24, 25, 26, 27, 28, 29, 30]) (hi : uE k * 40 ≤ i) : rF J S (sSet S k i v) := ⟨df.set h, fun e he => ag.set (Or.inr (Nat.le_trans (Nat.mul_le_mul_left _ (by omega)) hi))⟩
theorem rF.mono {J J2 : List Nat} {S S' : mS} (D : rF J S S') (h : ∀ j ∈ J, j ∈ J2) : rF J2 S S' := ⟨D.1.mono h fun _ h => h, D.2⟩
theorem rF.aF {J : List Nat} {S S' : mS} (D : rF J S S') (A : aF S 12 24000 f N) : aF S' 12 24000 f N := aF_df D.1 (by decide) A
theorem df_rF {J : List Nat} {S S' : mS} (D : df J [] S S') : rF J S S' := ⟨D.mono (fun _ h => h) fun k h => absurd h (by simp), fun e he k i _ _ => by rw [D.2 k (by simp)]⟩
theorem mRd_df {J : List Nat} {e : Nat} {r : Rd} {S S' : mS} (D : df J [] S S') (M : mRd S e r) : mRd S' e r := by
  have h : S'.2 = S.2 := funext fun k => D.2 k (by simp)
  unfold mRd mBk mPc at *
  rw [h]
  exact M
end PMPC
