section XTAPE
theorem sh_byte (x s : Int32) (k : Nat) (hk : k = 24 ∨ k = 16 ∨ k = 8 ∨ k = 0) (h1 : ((s &&& 31).toBitVec.smod 32).toNat = k) (h2 : ((s.toUInt32 &&& Int32.toUInt32 31).toBitVec % 32).toNat = k) : (x >>> (s &&& 31)) &&& 255 = nI (bOf (xush x s)) := by
  rw [pk_and (x >>> (s &&& 31)) (m := 255) 8 (by decide)]
  unfold bOf xush
  rw [pk_ushr x s k h2]
  congr 1
  have e1 := pk_shr x (s &&& 31) k h1
  generalize x >>> (s &&& 31) = y at e1
  have hy : y.toInt = if 2 * y.toBitVec.toNat < 2 ^ 32 then (y.toBitVec.toNat : Int) else (y.toBitVec.toNat : Int) - 2 ^ 32 := BitVec.toInt_eq_toNat_cond y.toBitVec
  have hx : x.toInt = if 2 * x.toBitVec.toNat < 2 ^ 32 then (x.toBitVec.toNat : Int) else (x.toBitVec.toNat : Int) - 2 ^ 32 := BitVec.toInt_eq_toNat_cond x.toBitVec
  have bx := x.toBitVec.isLt
  have bY := y.toBitVec.isLt
  generalize x.toBitVec.toNat = X at hx bx ⊢
  generalize y.toBitVec.toNat = Y at hy bY ⊢
  rw [hx, hy, Int.shiftRight_eq_div_pow] at e1
  rcases hk with rfl | rfl | rfl | rfl <;> split at e1 <;> split at e1 <;> omega
/-- the four bytes of a number, the highest first -/
def b4 (x : Int32) : List Nat := [bOf (xush x 24), bOf (xush x 16), bOf (xush x 8), bOf (xush x 0)]
def tM (S : xS) (bs : List Nat) : Prop := S.1 1 = nI bs.length ∧ bs.length ≤ 600 ∧ (S.2 0).length = 600 ∧ (∀ c ∈ bs, c < 256) ∧ ∀ i, i < bs.length → (S.2 0)[i]? = some (.int (nI (bs.getD i 0)))
/-- but for the tape all is the same -/
def eT (S S' : xS) : Prop := (∀ j, j ≠ 1 → S'.1 j = S.1 j) ∧ ∀ j, j ≠ 0 → S'.2 j = S.2 j
theorem eT.rfl' {S : xS} : eT S S := ⟨fun _ _ => rfl, fun _ _ => rfl⟩
theorem eT.tr {S S1 S2 : xS} (a : eT S S1) (b : eT S1 S2) : eT S S2 := ⟨fun j hj => (b.1 j hj).trans (a.1 j hj), fun j hj => (b.2 j hj).trans (a.2 j hj)⟩
variable {h : xH} {m : Nat} {S : xS} {bs : List Nat}
theorem l142_step (H : RM h m S) (Ht : tM S bs) (hl : bs.length < 600) {x1 x2 : Int32} (hx : ¬ x2 < 0) {c : Nat} (hc : c < 256) (he : (x1 >>> (x2 &&& 31)) &&& 255 = nI c) (n : Nat) : ∃ h' S', l142_3 (n + 1) (some m) x1 x2 h = l142_3 n (some m) x1 (x2 + (-8)) h' ∧ RM h' m S' ∧ tM S' (bs ++ [c]) ∧ FM m h h' ∧ eT S S' := by
  obtain ⟨t1, t2, t3, t4, t5⟩ := Ht
  obtain ⟨h1, e1, H1, F1⟩ := H.aS 0 bs.length (fun x => x) (nI c) (by omega)
  obtain ⟨h2, e2, H2, F2⟩ := H1.pF 1 (nI bs.length + 1) (ty := .int) (xfit_int _)
  refine ⟨h2, _, ?_, H2, ⟨?_, ?_, ?_, ?_, ?_⟩, F1.tr F2, ?_, ?_⟩
  · rw [l142_3]
    simp only [if_neg hx]
    rw [H.gR 0, H.gI 1]
    simp only [Option.bind_some]
    rw [he, t1]
    rw [show xaS h 13 (fun x => x) (some (m + mO 0)) (nI bs.length) (nI c) = some h1 from e1]
    simp only [Option.bind_some]
    rw [H1.gI 1]
    simp only [Option.bind_some]
    rw [show (sA S 0 bs.length (nI c)).1 1 = nI bs.length from t1, e2]
    rfl
  · rw [sI_1, nI_1]
    simp
  · simp
    omega
  · rw [sI_a, sA_1]
    simpa using t3
  · intro d hd
    rcases List.mem_append.mp hd with hd | hd
    · exact t4 d hd
    · rw [List.mem_singleton.mp hd]
      exact hc
  · intro i hi
    have hi : i < bs.length + 1 := by simpa using hi
    rw [sI_a, sA_1, List.getElem?_set]
    by_cases hii : bs.length = i
    · subst hii
      rw [if_pos rfl, if_pos (by omega)]
      simp [List.getD_eq_getElem?_getD]
    · rw [if_neg hii, t5 i (by omega)]
      simp [List.getD_eq_getElem?_getD, List.getElem?_append_left (show i < bs.length by omega)]
  · intro j hj
    rw [sI_n _ _ hj]
    rfl
  · intro j hj
    rw [sI_a, sA_n _ _ _ hj]
theorem fn142_spec (H : RM h m S) (Ht : tM S bs) (hl : bs.length + 4 ≤ 600) (x : Int32) : ∃ h' S', fn142 (some m) x h = some h' ∧ RM h' m S' ∧ tM S' (bs ++ b4 x) ∧ FM m h h' ∧ eT S S' := by
  obtain ⟨k, hk⟩ := xFuel_ge (n := 5) (by omega)
  unfold fn142
  rw [hk, show 5 + k = k + 1 + 1 + 1 + 1 + 1 by omega]
  obtain ⟨h1, S1, e1, H1, T1, F1, Q1⟩ := l142_step H Ht (by omega) (x1 := x) (x2 := 24) (by decide) (bOf_lt _) (sh_byte x 24 24 (by omega) (by decide) (by decide)) (k + 1 + 1 + 1 + 1)
  obtain ⟨h2, S2, e2, H2, T2, F2, Q2⟩ := l142_step H1 T1 (by simp; omega) (x1 := x) (x2 := 16) (by decide) (bOf_lt _) (sh_byte x 16 16 (by omega) (by decide) (by decide)) (k + 1 + 1 + 1)
  obtain ⟨h3, S3, e3, H3, T3, F3, Q3⟩ := l142_step H2 T2 (by simp; omega) (x1 := x) (x2 := 8) (by decide) (bOf_lt _) (sh_byte x 8 8 (by omega) (by decide) (by decide)) (k + 1 + 1)
  obtain ⟨h4, S4, e4, H4, T4, F4, Q4⟩ := l142_step H3 T3 (by simp; omega) (x1 := x) (x2 := 0) (by decide) (bOf_lt _) (sh_byte x 0 0 (by omega) (by decide) (by decide)) (k + 1)
  refine ⟨h4, S4, ?_, H4, ?_, ((F1.tr F2).tr F3).tr F4, ((Q1.tr Q2).tr Q3).tr Q4⟩
  · rw [e1, show (24 : Int32) + (-8) = 16 by decide, e2, show (16 : Int32) + (-8) = 8 by decide, e3, show (8 : Int32) + (-8) = 0 by decide, e4, l142_3]
    exact if_pos (show (0 : Int32) + (-8) < 0 by decide)
  · simpa [b4] using T4
theorem fn141_spec (v lo hi : Int32) (h : xH) : fn141 v lo hi h = some (if lo ≤ v ∧ v ≤ hi then 1 else 0, h) := by
  by_cases h1 : v < lo
  · have h2 : ¬ (lo ≤ v ∧ v ≤ hi) := fun h9 => absurd h1 (Int32.not_lt.mpr h9.1)
    simp only [if_neg h2]
    unfold fn141
    simp only [if_pos h1]
    rfl
  · by_cases h2 : hi < v
    · have h3 : ¬ (lo ≤ v ∧ v ≤ hi) := fun h9 => absurd h2 (Int32.not_lt.mpr h9.2)
      simp only [if_neg h3]
      unfold fn141
      simp only [if_neg h1, if_pos h2]
      rfl
    · simp only [if_pos (⟨Int32.not_lt.mp h1, Int32.not_lt.mp h2⟩ : lo ≤ v ∧ v ≤ hi)]
      unfold fn141
      simp only [if_neg h1, if_neg h2]
      rfl
/-- feed of the reference -/
theorem fn143_spec (H : RM h m S) (Ht : tM S bs) (a b c d e : Int32) : (bs.length + 20 ≤ 600 → ∃ h' S', fn143 (some m) a b c d e h = some (nI (bs.length + 20), h') ∧ RM h' m S' ∧ tM S' (bs ++ b4 a ++ b4 b ++ b4 c ++ b4 d ++ b4 e) ∧ FM m h h' ∧ eT S S') ∧ (¬ bs.length + 20 ≤ 600 → fn143 (some m) a b c d e h = some (-3, h)) := by
  have t1 := Ht.1
  have t2 := Ht.2.1
  have e20 : nI bs.length + 20 = nI (bs.length + 20) := nI_add bs.length 20
  unfold fn143
  rw [H.gI 1]
  simp only [Option.bind_some]
  rw [t1, e20]
  constructor
  · intro hl
    obtain ⟨h1, S1, e1, H1, T1, F1, Q1⟩ := fn142_spec H Ht (by omega) a
    obtain ⟨h2, S2, e2, H2, T2, F2, Q2⟩ := fn142_spec H1 T1 (by simp [b4]; omega) b
    obtain ⟨h3, S3, e3, H3, T3, F3, Q3⟩ := fn142_spec H2 T2 (by simp [b4]; omega) c
    obtain ⟨h4, S4, e4, H4, T4, F4, Q4⟩ := fn142_spec H3 T3 (by simp [b4]; omega) d
    obtain ⟨h5, S5, e5, H5, T5, F5, Q5⟩ := fn142_spec H4 T4 (by simp [b4]; omega) e
    refine ⟨h5, S5, ?_, H5, T5, (((F1.tr F2).tr F3).tr F4).tr F5, (((Q1.tr Q2).tr Q3).tr Q4).tr Q5⟩
    have hle : nI (bs.length + 20) ≤ 600 := nI_le (b := 600) hl (by omega)
    simp only [if_pos hle]
    rw [H.cv, e1]
    simp only [Option.bind_some]
    rw [H1.cv, e2]
    simp only [Option.bind_some]
    rw [H2.cv, e3]
    simp only [Option.bind_some]
    rw [H3.cv, e4]
    simp only [Option.bind_some]
    rw [H4.cv, e5]
    simp only [Option.bind_some]
    rw [H5.gI 1, T5.1]
    simp [b4]
  · intro hl
    have hle : ¬ nI (bs.length + 20) ≤ 600 := fun h9 => hl ((nI_leI (b := 600) (by omega) (by omega)).mp h9)
    simp only [if_neg hle]
/-- end of the reference -/
theorem fn144_spec (H : RM h m S) (Ht : tM S bs) (x : Int32) : (∀ n, n ≤ bs.length → x = nI n → ∃ h' S', fn144 (some m) x h = some (nI bs.length, h') ∧ RM h' m S' ∧ tM S' (bs.take n) ∧ FM m h h' ∧ eT S S') ∧ (¬ (0 ≤ x ∧ x ≤ nI bs.length) → fn144 (some m) x h = some (-1, h)) := by
  have t1 := Ht.1
  have t2 := Ht.2.1
  unfold fn144
  rw [H.gI 1]
  simp only [Option.bind_some]
  rw [t1, fn141_spec]
  simp only [Option.bind_some]
  constructor
  · rintro n hn rfl
    have hin : (0 : Int32) ≤ nI n ∧ nI n ≤ nI bs.length := ⟨nI_pos' (by omega), nI_le hn (by omega)⟩
    obtain ⟨h1, e1, H1, F1⟩ := H.pF 1 (nI n) (ty := .int) (xfit_int _)
    have hlen : (bs.take n).length = n := by simp [hn]
    refine ⟨h1, _, ?_, H1, ⟨?_, by omega, Ht.2.2.1, fun c hc => Ht.2.2.2.1 c (List.mem_of_mem_take hc), fun i hi => ?_⟩, F1, fun j hj => sI_n _ _ hj, fun j hj => rfl⟩
    · simp only [if_pos hin, if_neg (show ¬ (1 : Int32) = 0 by decide)]
      rw [H.gI 1]
      simp only [Option.bind_some]
      rw [e1, t1]
      rfl
    · rw [sI_1, hlen]
    · rw [hlen] at hi
      have := Ht.2.2.2.2 i (by omega)
      rw [sI_a, this]
      simp [List.getD_eq_getElem?_getD, List.getElem?_take, hi]
  · intro hn
    simp only [if_neg hn, if_true]
end XTAPE
