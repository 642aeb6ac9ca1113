section PMBR
theorem bZf : bZ false = 0 := rfl
theorem bZt : ¬ bZ true = 0 := by decide
theorem nI_ne {a b : Nat} (h : ¬ a = b) (ha : a < 2 ^ 31) (hb : b < 2 ^ 31) : ¬ nI a = nI b := fun h9 => h ((nI_eq ha hb).mp h9)
theorem nI_s1 {a : Nat} (h : 0 < a) : nI a - 1 = nI (a - 1) := pk_sub h
theorem bS {α β : Type} (a : α) (f : α → Option β) : (some a).bind f = f a := by
  cases h : f a with
  | none => exact h
  | some b => exact h
theorem xF1 : xFuel = 999999 + 1 := rfl
variable {S : mS} {f : Nat → Nat} {N to : Nat}
theorem aF.n600 (A : aF S 12 24000 f N) : N ≤ 600 := by
  have h := A.1
  rw [show mSz.getD 12 0 = 24600 from rfl] at h
  omega
theorem g167_s (A : aF S 12 24000 f N) {i : Nat} (h : i < N) : g167 (nI i) S = some (nI (f i), S) := by
  unfold g167
  rw [lt_24000, nI_add, A.ld h]
  rfl
def lw (W : Int64) (w : List Nat) : Prop := w.length < 10 ∧ (∀ c ∈ w, 32 ≤ c ∧ c < 256) ∧ ∀ k, k < w.length → ((W >>> ((8 * ((nI w.length - 1) - nI k)).toInt64 &&& 63)) &&& 255).toInt32 = nI (w.getD k 999) ∧ w.getD k 999 < 256
theorem lw_code : lw 135667000829216 wCode := by unfold lw; decide +kernel
theorem lw_link : lw 135705555528480 wLink := by unfold lw; decide +kernel
theorem lw_inh : lw 8892760333877406068 (wInh.take 8) := by unfold lw; decide +kernel
theorem lw_end : lw 125 [125] := by unfold lw; decide +kernel
theorem lw_2 : lw 482671223149 (wTag 2) := by unfold lw; decide +kernel
theorem lw_3 : lw 125780071117422 (wTag 3) := by unfold lw; decide +kernel
theorem lw_4 : lw 127991945328499 (wTag 4) := by unfold lw; decide +kernel
theorem lw_5 : lw 7562597 (wTag 5) := by unfold lw; decide +kernel
theorem lw_6 : lw 495690081125 (wTag 6) := by unfold lw; decide +kernel
theorem g168_s (A : aF S 12 24000 f N) (hl : S.1 37 = nI to) (ht : to ≤ N) {W : Int64} {w : List Nat} (hw : lw W w) {i : Nat} (hi : i ≤ 2000) : g168 (nI i) W (nI w.length) S = some (bZ (decide (i + w.length ≤ to) && isW f i w), S) := by
  have hN := A.n600
  obtain ⟨w1, _, w2⟩ := hw
  unfold g168
  rw [hl, nI_add]
  by_cases h : i + w.length ≤ to
  · rw [if_neg (nI_nlt h (by omega)), decide_eq_true h]
    unfold gj168_16
    have key := l_al (fun n b k => gl168_21 n (nI i) W (nI w.length) (bZ b) (nI k) S) (fun k => f (i + k) == w.getD k 999) (fun b => some (bZ b, S)) w.length (fun n b => ?_) (fun n k hk => ?_) (fun n k hk => ?_) w.length xFuel 0 true (by omega) (pFuel _ (by omega))
    · refine Eq.trans key ?_
      rw [isW_al]
    · simp only [gl168_21, gj168_74]
      rw [if_pos (nI_le (Nat.le_refl _) (by omega)), if_pos bZ_p]
    · simp only [gl168_21, gj168_74]
      rw [if_neg (nI_ge hk (by omega)), if_pos bZf]
      rfl
    · have c := (A.2.2 (i + k) (by omega)).1
      simp (disch := omega) only [gl168_21, nI_add, nI_leI, g167_s A, Option.bind_some, (w2 k hk).1, nI_eq, gj168_66, nI_1]
      have d := (w2 k hk).2
      rw [if_neg (by omega), if_neg (by decide)]
      by_cases h5 : f (i + k) = w.getD k 999
      · rw [if_pos ((nI_eq (by omega) (by omega)).mpr h5), show (f (i + k) == w.getD k 999) = true from beq_iff_eq.mpr h5]
        rfl
      · rw [if_neg fun h9 => h5 ((nI_eq (by omega) (by omega)).mp h9), show (f (i + k) == w.getD k 999) = false from by simpa using h5]
        rfl
  · rw [if_pos (nI_lt (by omega) (by omega)), decide_eq_false h]
    unfold gj168_16
    rw [xF1, gl168_21]
    dsimp only
    split <;> rfl
theorem g168_w (A : aF S 12 24000 f N) (hl : S.1 37 = nI to) (ht : to ≤ N) (hE : f to = 10 ∨ 256 ≤ f to) {W : Int64} {w : List Nat} (hw : lw W w) {i : Nat} (hi : i ≤ to) : g168 (nI i) W (nI w.length) S = some (bZ (isW f i w), S) := by
  have hN := A.n600
  rw [g168_s A hl ht hw (by omega)]
  congr 3
  cases h : isW f i w with
  | false => simp
  | true => rw [decide_eq_true (isW_in hE w i hw.2.1 hi h)]; rfl
theorem g169_s (A : aF S 12 24000 f N) (hl : S.1 37 = nI to) (ht : to ≤ N) {i : Nat} (hi : i ≤ to) : g169 (nI i) S = some (nI (skp f i to), S) := by
  have hN := A.n600
  unfold g169
  refine l_sc (fun n j => gl169_2 n (nI i) (nI j) S) (fun j => !(f j == 32)) (fun j => some (nI j, S)) to (fun n => ?_) (fun n j hj hp => ?_) (fun n j hj hp => ?_) (to - i) xFuel i (by omega) (pFuel _ (by omega))
  · simp (disch := omega) only [gl169_2, hl, nI_leI, gj169_26]
    rw [if_pos (Nat.le_refl _)]
  · have c := (A.2.2 j (by omega)).1
    simp (disch := omega) only [gl169_2, hl, nI_leI, g167_s A, Option.bind_some, lt_32, nI_eq, gj169_26]
    rw [if_neg (by omega), if_neg (by simpa using hp)]
  · have c := (A.2.2 j (by omega)).1
    simp (disch := omega) only [gl169_2, hl, nI_leI, g167_s A, Option.bind_some, lt_32, nI_eq, nI_1]
    rw [if_neg (by omega), if_pos (by simpa using hp)]
theorem g170_s (A : aF S 12 24000 f N) (hl : S.1 37 = nI to) (ht : to ≤ N) {i : Nat} (hi : i ≤ to) : g170 (nI i) S = some (nI (sc (fun j => f j == 32) i (to - i)), S) := by
  have hN := A.n600
  unfold g170
  refine l_sc (fun n j => gl170_2 n (nI i) (nI j) S) (fun j => f j == 32) (fun j => some (nI j, S)) to (fun n => ?_) (fun n j hj hp => ?_) (fun n j hj hp => ?_) (to - i) xFuel i (by omega) (pFuel _ (by omega))
  · simp (disch := omega) only [gl170_2, hl, nI_leI, gj170_26]
    rw [if_pos (Nat.le_refl _)]
  · have c := (A.2.2 j (by omega)).1
    simp (disch := omega) only [gl170_2, hl, nI_leI, g167_s A, Option.bind_some, lt_32, nI_eq, gj170_26]
    rw [if_neg (by omega), if_pos (by simpa using hp)]
  · have c := (A.2.2 j (by omega)).1
    simp (disch := omega) only [gl170_2, hl, nI_leI, g167_s A, Option.bind_some, lt_32, nI_eq, nI_1]
    rw [if_neg (by omega), if_neg (by simpa using hp)]
theorem g178_s (A : aF S 12 24000 f N) {i : Nat} (hi : i ≤ N) : g178 (nI i) (nI N) S = some (nI (sc (fun j => f j == 10) i (N - i)), S) := by
  have hN := A.n600
  unfold g178
  refine l_sc (fun n j => gl178_2 n (nI i) (nI N) (nI j) S) (fun j => f j == 10) (fun j => some (nI j, S)) N (fun n => ?_) (fun n j hj hp => ?_) (fun n j hj hp => ?_) (N - i) xFuel i (by omega) (pFuel _ (by omega))
  · simp (disch := omega) only [gl178_2, nI_leI, gj178_23]
    rw [if_pos (Nat.le_refl _)]
  · have c := (A.2.2 j (by omega)).1
    simp (disch := omega) only [gl178_2, nI_leI, g167_s A, Option.bind_some, lt_10, nI_eq, gj178_23]
    rw [if_neg (by omega), if_pos (by simpa using hp)]
  · have c := (A.2.2 j (by omega)).1
    simp (disch := omega) only [gl178_2, nI_leI, g167_s A, Option.bind_some, lt_10, nI_eq, nI_1]
    rw [if_neg (by omega), if_neg (by simpa using hp)]
theorem g179_s (A : aF S 12 24000 f N) (hl : S.1 37 = nI to) (ht : to ≤ N) {i : Nat} (hi : i < to) : g179 (nI i) S = some (bZ (isIt f i to), S) := by
  have hN := A.n600
  have c := (A.2.2 i (by omega)).1
  unfold g179 isIt
  simp (disch := omega) only [g167_s A, Option.bind_some, lt_45, nI_eq, hl, nI_1]
  by_cases h : f i = 45
  · rw [if_pos h]
    by_cases h2 : i + 1 = to
    · rw [if_pos h2]
      simp [h, h2, gj179_32, gj179_37, bZ]
    · have c2 := (A.2.2 (i + 1) (by omega)).1
      rw [if_neg h2]
      simp (disch := omega) only [g167_s A, Option.bind_some, lt_32, nI_eq]
      by_cases h3 : f (i + 1) = 32
      · rw [if_pos h3]
        simp [h, h3, gj179_32, gj179_37, bZ]
      · rw [if_neg h3]
        simp [h, h2, h3, gj179_36, gj179_37, bZ]
  · rw [if_neg h]
    simp [h, gj179_36, gj179_37, bZ]
theorem nI_dec {o : Nat} (h : 0 < o) : nI o + (-1) = nI (o - 1) := by
  obtain ⟨k, rfl⟩ : ∃ k, o = k + 1 := ⟨o - 1, by omega⟩
  rw [← Int32.sub_eq_add_neg, nI_pred]
  rfl
theorem g171_c (A : aF S 12 24000 f N) (hl : S.1 37 = nI to) (ht : to ≤ N) (x1 : Int32) : ∀ k n i o, i + k = to → k < n → o ≤ 601 + i → gl171_20 n x1 (nI o) (nI i) S = gj171_70 x1 (nI (cEnd f i k o).2) (nI (cEnd f i k o).1) S := by
  have hN := A.n600
  intro k
  induction k with
  | zero =>
    intro n i o hi hn ho
    obtain ⟨n, rfl⟩ : ∃ m, n = m + 1 := ⟨n - 1, by omega⟩
    simp (disch := omega) only [gl171_20, hl, nI_leI]
    rw [if_pos (by omega)]
    rfl
  | succ k ih =>
    intro n i o hi hn ho
    obtain ⟨n, rfl⟩ : ∃ m, n = m + 1 := ⟨n - 1, by omega⟩
    have c := (A.2.2 i (by omega)).1
    rw [cEnd]
    simp (disch := omega) only [gl171_20, hl, nI_leI, nI_z1, g167_s A, Option.bind_some, lt_123, lt_125, nI_eq, gj171_62]
    rw [if_neg (by omega)]
    by_cases h0 : o = 0
    · rw [if_pos h0, if_pos h0]
    · rw [if_neg h0, if_neg h0]
      by_cases h1 : f i = 123
      · rw [if_pos h1, if_pos h1, nI_1, nI_1]
        exact ih n (i + 1) (o + 1) (by omega) (by omega) (by omega)
      · rw [if_neg h1, if_neg h1]
        by_cases h2 : f i = 125
        · rw [if_pos h2, if_pos h2, nI_dec (by omega), nI_1]
          exact ih n (i + 1) (o - 1) (by omega) (by omega) (by omega)
        · rw [if_neg h2, if_neg h2, Int32.add_zero, nI_1]
          exact ih n (i + 1) o (by omega) (by omega) (by omega)
theorem g171_l (A : aF S 12 24000 f N) (hl : S.1 37 = nI to) (ht : to ≤ N) (x1 : Int32) {i : Nat} (hi : i ≤ to) : gl171_235 xFuel x1 (nI i) S = gj171_269 x1 (nI (sc (fun j => f j == 123 || f j == 125) i (to - i))) S := by
  have hN := A.n600
  refine l_sc (fun n j => gl171_235 n x1 (nI j) S) (fun j => f j == 123 || f j == 125) (fun j => gj171_269 x1 (nI j) S) to (fun n => ?_) (fun n j hj hp => ?_) (fun n j hj hp => ?_) (to - i) xFuel i (by omega) (pFuel _ (by omega))
  · simp (disch := omega) only [gl171_235, hl, nI_leI]
    rw [if_pos (Nat.le_refl _)]
  · have c := (A.2.2 j (by omega)).1
    simp (disch := omega) only [gl171_235, hl, nI_leI, g167_s A, Option.bind_some, lt_123, lt_125, nI_eq]
    rw [if_neg (by omega)]
    by_cases h1 : f j = 123
    · rw [if_pos h1]
    · rw [if_neg h1, if_pos (by simpa [h1] using hp)]
  · have c := (A.2.2 j (by omega)).1
    simp (disch := omega) only [gl171_235, hl, nI_leI, g167_s A, Option.bind_some, lt_123, lt_125, nI_eq, nI_1]
    simp at hp
    rw [if_neg (by omega), if_neg hp.1, if_neg hp.2]
abbrev brJ : List Nat := [39, 40, 41, 42, 43]
/-- what brace leaves behind -/
def brP (S' : mS) (q : Nat × Nat × Nat × Nat × Nat × Nat) : Prop := S'.1 40 = nI q.2.1 ∧ S'.1 41 = nI (q.2.2.1 - q.2.1) ∧ S'.1 39 = nI q.2.2.2.2.2 ∧ (q.1 = 2 → S'.1 42 = nI q.2.2.2.1 ∧ S'.1 43 = nI (q.2.2.2.2.1 - q.2.2.2.1))
def pcI (o : Option (Nat × Nat × Nat × Nat × Nat × Nat)) : Int32 := match o with
  | none => -1
  | some q => nI q.1
theorem g171_k (A : aF S 12 24000 f N) (hl : S.1 37 = nI to) (ht : to ≤ N) (hE : f to = 10 ∨ 256 ≤ f to) {i : Nat} (hi : i < to) (hc : isW f i wCode = true) : ∃ S', g171 (nI i) S = some (pcI (pcOne f i to), S') ∧ df brJ [] S S' ∧ ∀ q, pcOne f i to = some q → brP S' q := by
  have hN := A.n600
  have i6 := isW_in hE wCode i (by decide) (by omega) hc
  have i7 : wCode.length = 6 := rfl
  rw [i7] at i6
  have e1 : g168 (nI i) 135667000829216 6 S = some (bZ (isW f i wCode), S) := g168_w (w := wCode) A hl ht hE lw_code (by omega)
  have e2 : gl171_20 xFuel (nI i) 1 (nI i + 6) S = gj171_70 (nI i) (nI (cEnd f (i + 6) (to - (i + 6)) 1).2) (nI (cEnd f (i + 6) (to - (i + 6)) 1).1) S := by
    rw [lt_6, nI_add]
    exact g171_c A hl ht (nI i) (to - (i + 6)) xFuel (i + 6) 1 (by omega) (pFuel _ (by omega)) (by omega)
  rw [pc_code hc]
  unfold g171
  rw [e1, hc]
  simp only [Option.bind_some]
  rw [if_neg (by decide), e2]
  have b := cEnd_ge f (to - (i + 6)) (i + 6) 1
  generalize cEnd f (i + 6) (to - (i + 6)) 1 = r at b ⊢
  unfold gj171_70
  simp only [Option.bind_some]
  have D : ∀ a c d, df brJ [] S (sPut (sPut (sPut S 40 a) 41 c) 39 d) := fun a c d => ((df.put (by decide)).tr (df.put (by decide))).tr (df.put (by decide))
  by_cases h0 : r.2 = 0
  · have h1 := b.2.2.2 h0 (by decide)
    rw [if_pos (by rw [h0]; rfl), g141_s]
    have e3 : (sPut (sPut (sPut S 40 (nI i + 6)) 41 ((nI r.1 - 1) - ((sPut S 40 (nI i + 6)).1 40))) 39 (nI r.1)).1 41 = nI (r.1 - 1 - (i + 6)) := by
      show (nI r.1 - 1) - (nI i + 6) = _
      rw [lt_6, nI_add, show (1 : Int32) = nI 1 from rfl, pk_sub (by omega), pk_sub (by omega)]
    rw [e3]
    simp only [Option.bind_some, bZ_0]
    have e4 : decide ((1 : Int32) ≤ nI (r.1 - 1 - (i + 6)) ∧ nI (r.1 - 1 - (i + 6)) ≤ 60) = decide (1 ≤ r.1 - 1 - (i + 6) ∧ r.1 - 1 - (i + 6) ≤ 60) := by
      rw [show (1 : Int32) = nI 1 from rfl, lt_60]
      simp (disch := omega) only [nI_leI]
    rw [e4]
    by_cases h2 : 1 ≤ r.1 - 1 - (i + 6) ∧ r.1 - 1 - (i + 6) ≤ 60
    · rw [decide_eq_true h2, if_neg (by decide), if_pos ⟨h0, h2⟩]
      refine ⟨_, rfl, D _ _ _, fun q hq => ?_⟩
      cases hq
      refine ⟨?_, e3, rfl, fun h9 => absurd h9 (show ¬ 1 = 2 by decide)⟩
      show nI i + 6 = nI (i + 6)
      rw [lt_6, nI_add]
    · rw [decide_eq_false h2, if_pos (show false = false from rfl), if_neg fun h9 => h2 h9.2]
      exact ⟨_, rfl, D _ _ _, fun q hq => by cases hq⟩
  · rw [if_neg (show ¬ _ = (0 : Int32) from nI_ne h0 (by omega) (by decide)), if_neg fun h9 => h0 h9.1]
    exact ⟨_, rfl, D _ _ _, fun q hq => by cases hq⟩
theorem g171_n (A : aF S 12 24000 f N) (hl : S.1 37 = nI to) (ht : to ≤ N) (hE : f to = 10 ∨ 256 ≤ f to) {i : Nat} (hi : i < to) (h1 : f i = 123) (hc : isW f i wCode = false) (hk : isW f i wLink = false) : ∃ S', g171 (nI i) S = some (pcI (pcOne f i to), S') ∧ df brJ [] S S' ∧ ∀ q, pcOne f i to = some q → brP S' q := by
  have e1 : g168 (nI i) 135667000829216 6 S = some (bZ (isW f i wCode), S) := g168_w (w := wCode) A hl ht hE lw_code (by omega)
  have e2 : g168 (nI i) 135705555528480 6 S = some (bZ (isW f i wLink), S) := g168_w (w := wLink) A hl ht hE lw_link (by omega)
  rw [pc_no h1 hi hc hk]
  unfold g171
  rw [e1, hc]
  simp only [Option.bind_some]
  rw [if_pos bZf, e2, hk]
  simp only [Option.bind_some]
  rw [if_pos bZf]
  exact ⟨S, rfl, df.rfl', fun q hq => by cases hq⟩
end PMBR
