section PLAW
variable {h z y : xH} {C C' : xC} {S S' : mS} {a : Nat}
/-- the number in a place, the reference in a place -/
def lwv (o : Option Value) : Int32 := match o with
  | some (.int x) => x
  | _ => 0
def lwr (o : Option Value) : Option Nat := match o with
  | some (.ref b) => some b
  | _ => none
abbrev inM (a : Nat) : Prop := 178 ≤ a ∧ a < 224
/-- the class's state, with the reference's cells out of the heap -/
def rfC (C : xC) (h : xH) : xC := (h.1, h.2.1, fun a => if inM a then ((h.2.2 a).1, (h.2.2 a).2.length) else cK C a, fun a j => if inM a then lwv ((h.2.2 a).2[j]?) else cI C a j, fun a j => if inM a then lwr ((h.2.2 a).2[j]?) else cR C a j)
theorem rfC_K (hm : inM a) : cK (rfC C h) a = ((h.2.2 a).1, (h.2.2 a).2.length) := if_pos hm
theorem rfC_I (hm : inM a) (j : Nat) : cI (rfC C h) a j = lwv ((h.2.2 a).2[j]?) := if_pos hm
theorem rfC_R (hm : inM a) (j : Nat) : cR (rfC C h) a j = lwr ((h.2.2 a).2[j]?) := if_pos hm
theorem rfC_k (hm : ¬ inM a) : cK (rfC C h) a = cK C a := if_neg hm
theorem rfC_i (hm : ¬ inM a) (j : Nat) : cI (rfC C h) a j = cI C a j := if_neg hm
theorem rfC_r (hm : ¬ inM a) (j : Nat) : cR (rfC C h) a j = cR C a j := if_neg hm
theorem rfC_o : eqO (fun a => a < 178 ∨ 224 ≤ a) C (rfC C h) := fun a ha => by
  have hm : ¬ inM a := fun h9 => by omega
  exact ⟨fun k => rfC_i hm k, fun k => rfC_r hm k, rfC_k hm⟩
theorem mO_on : ∀ i, i < 46 → i ≠ 0 → ∃ k, k < 74 ∧ mO k = i := by decide +kernel
theorem mO_F : ∀ k, k < 74 → (mO k = 0 → cF 11 k = 99) ∧ (mO k ≠ 0 → cF 11 k = mT k ∧ cF 11 k ≠ 99) := by decide +kernel
/-- what lies in the reference's cells -/
theorem RF.shp (H : RF h 178 S) (hm : inM a) : (((h.2.2 a).1 = 11 ∧ (h.2.2 a).2.length = 74) ∨ (13 ≤ (h.2.2 a).1 ∧ (h.2.2 a).1 < 15 ∧ (h.2.2 a).2.length < 2 ^ 31)) ∧ ∀ j v, (h.2.2 a).2[j]? = some v → (cF (h.2.2 a).1 j = 99 ∧ ∃ x, v = .int x) ∨ (cF (h.2.2 a).1 j ≠ 99 ∧ ∃ b, v = .ref b ∧ b < h.1 ∧ inM b ∧ (h.2.2 b).1 = cF (h.2.2 a).1 j) := by
  have h1 := H.1
  by_cases ha : a = 178
  · subst ha
    have e := H.2.1
    rw [e]
    have hl : (mC 178 (S.1, mA S)).2.length = 74 := by simp [mC]
    refine ⟨Or.inl ⟨rfl, hl⟩, fun j v hv => ?_⟩
    have hj : j < 74 := by
      have := (List.getElem?_eq_some_iff.mp hv).1
      omega
    rw [mC_at hj] at hv
    have hv := (Option.some.inj hv).symm
    obtain ⟨f1, f2⟩ := mO_F j hj
    have hle := mO_le j hj
    show (cF 11 j = 99 ∧ _) ∨ (cF 11 j ≠ 99 ∧ ∃ b, v = .ref b ∧ b < h.1 ∧ inM b ∧ (h.2.2 b).1 = cF 11 j)
    unfold mV at hv
    by_cases h0 : mO j = 0
    · rw [if_pos h0] at hv
      exact Or.inl ⟨f1 h0, _, hv⟩
    · rw [if_neg h0] at hv
      have b1 : 178 + mO j < h.1 := by omega
      have b2 : inM (178 + mO j) := ⟨by omega, by omega⟩
      refine Or.inr ⟨(f2 h0).2, 178 + mO j, hv, b1, b2, ?_⟩
      rw [(H.2.2 j hj h0).1]
      exact (f2 h0).1.symm
  · obtain ⟨k, hk, he⟩ := mO_on (a - 178) (by omega) (by omega)
    have h0 : mO k ≠ 0 := by omega
    obtain ⟨e1, e2⟩ := H.2.2 k hk h0
    rw [show 178 + mO k = a by omega] at e1
    rw [e1]
    have ht := mT_in k hk h0
    refine ⟨Or.inr ⟨ht.1, ht.2, e2⟩, fun j v hv => ?_⟩
    have hv : (mA S k)[j]? = some v := hv
    have hj : j < mSz.getD k 0 := by
      have := (List.getElem?_eq_some_iff.mp hv).1
      rw [mA_len] at this
      exact this
    rw [mA_at hj] at hv
    exact Or.inl ⟨cF_i (by omega) ht.2, _, (Option.some.inj hv).symm⟩
theorem WH_rf (H : RF h 178 S) (hO : ∀ a, a < h.1 → ¬ inM a → h.2.2 a = cO C a ∧ (((cK C a).1 < 12 ∧ (cK C a).2 = cN (cK C a).1) ∨ (12 ≤ (cK C a).1 ∧ (cK C a).1 < 19 ∧ (cK C a).2 < 2 ^ 31))) (hT : ∀ a, a < h.1 → ¬ inM a → ∀ k, k < (cK C a).2 → cF (cK C a).1 k ≠ 99 → tR (rfC C h) (cR C a k) (cF (cK C a).1 k)) : WH h (rfC C h) := by
  refine ⟨rfl, rfl, fun a ha => ?_, fun a ha => ?_⟩
  · by_cases hm : inM a
    · obtain ⟨_, sh⟩ := H.shp hm
      unfold cO
      rw [rfC_K hm]
      refine Prod.ext rfl (List.ext_getElem? fun j => ?_)
      dsimp only
      rw [List.getElem?_map]
      by_cases hj : j < (h.2.2 a).2.length
      · rw [List.getElem?_range hj, Option.map_some]
        obtain ⟨v, hv⟩ : ∃ v, (h.2.2 a).2[j]? = some v := ⟨_, List.getElem?_eq_getElem hj⟩
        rw [hv]
        congr 1
        unfold cV
        rw [rfC_K hm, rfC_I hm, rfC_R hm, hv]
        dsimp only
        rcases sh j v hv with ⟨s1, x, rfl⟩ | ⟨s1, b, rfl, _⟩
        · rw [if_pos s1]
          rfl
        · rw [if_neg s1]
          rfl
      · rw [List.getElem?_eq_none (by omega), List.getElem?_eq_none (by rw [List.length_range]; omega)]
        rfl
    · rw [(hO a ha hm).1]
      have e : cV (rfC C h) a = cV C a := funext fun k => by
        unfold cV
        rw [rfC_k hm, rfC_i hm, rfC_r hm]
      unfold cO
      rw [rfC_k hm, e]
  · by_cases hm : inM a
    · obtain ⟨s0, sh⟩ := H.shp hm
      rw [rfC_K hm]
      dsimp only
      refine ⟨?_, fun k hk hf => ?_⟩
      · rcases s0 with ⟨s1, s2⟩ | ⟨s1, s2, s3⟩
        · rw [s1, s2]
          exact Or.inl ⟨by decide, rfl⟩
        · exact Or.inr ⟨by omega, by omega, s3⟩
      · obtain ⟨v, hv⟩ : ∃ v, (h.2.2 a).2[k]? = some v := ⟨_, List.getElem?_eq_getElem hk⟩
        rcases sh k v hv with ⟨s1, _⟩ | ⟨_, b, rfl, b1, b2, b3⟩
        · exact absurd s1 hf
        · rw [rfC_R hm, hv]
          intro c hc
          have hc : some b = some c := hc
          obtain rfl := Option.some.inj hc
          exact ⟨b1, by rw [rfC_K b2]; exact b3⟩
    · rw [rfC_k hm]
      refine ⟨(hO a ha hm).2, fun k hk hf => ?_⟩
      rw [rfC_r hm]
      exact hT a ha hm k hk hf
/-- the reference's cells stay in a call of the class -/
theorem RF_kp (H : RF h 178 S) (W : WH h C) (W' : WH z C') (K : eqO (fun a => 178 ≤ a ∧ a < 224) C C') (hle : C.1 ≤ C'.1) : RF z 178 S := by
  have h1 := H.1
  have w1 := W.1
  have same : ∀ a, inM a → z.2.2 a = h.2.2 a := fun a ha => by
    rw [W'.2.2.1 a (by omega), W.2.2.1 a (by omega)]
    have e : cV C' a = cV C a := funext fun k => by
      unfold cV
      rw [(K a ha).2.2, (K a ha).1, (K a ha).2.1]
    unfold cO
    rw [(K a ha).2.2, e]
  refine ⟨by rw [W'.1]; omega, by rw [same 178 ⟨by decide, by decide⟩]; exact H.2.1, fun k hk h0 => ?_⟩
  have := mO_le k hk
  rw [same (178 + mO k) ⟨by omega, by omega⟩]
  exact H.2.2 k hk h0
/-- the class's cells stay in a call of the reference -/
theorem WH_fm (Hz : RF z 178 S) (Hy : RF y 178 S') (F : FM 178 z y) (W : WH z C) : WH y (rfC C y) ∧ sm C (rfC C y) := by
  have f1 := F.1
  have f2 := F.2.1
  have w1 := W.1
  have w2 := W.2.1
  refine ⟨WH_rf Hy (fun a ha hm => ⟨?_, (W.2.2.2 a (by omega)).1⟩) (fun a ha hm k hk hf b hb => ?_), by show y.1 = C.1; omega, by show y.2.1 = C.2.1; omega⟩
  · rw [F.2.2 a (by omega)]
    exact W.2.2.1 a (by omega)
  · obtain ⟨b1, b2⟩ := (W.2.2.2 a (by omega)).2 k hk hf b hb
    refine ⟨by show b < y.1; omega, ?_⟩
    by_cases hb2 : inM b
    · rw [rfC_K hb2]
      dsimp only
      rw [← b2]
      have e1 : (z.2.2 b).1 = (cK C b).1 := by rw [W.2.2.1 b b1]; rfl
      rw [← e1]
      by_cases hb3 : b = 178
      · subst hb3
        rw [Hy.2.1, Hz.2.1]
        rfl
      · obtain ⟨k, hk, he⟩ := mO_on (b - 178) (by omega) (by omega)
        have h0 : mO k ≠ 0 := by omega
        have e2 := (Hy.2.2 k hk h0).1
        have e3 := (Hz.2.2 k hk h0).1
        rw [show 178 + mO k = b by omega] at e2 e3
        rw [e2, e3]
    · rw [rfC_k hb2]
      exact b2
/-- class and reference stand for the same -/
def lwI (h : xH) (i : Nat) : Prop := ∃ (C : xC) (S : mS) (σ : St) (g : Gh), WH h C ∧ RF h 178 S ∧ CR C σ g ∧ MR S σ ∧ wSt σ ∧ tR C (some 0) 10 ∧ C.1 ≤ 224 + 200 * i ∧ C.2.1 ≤ 200000 + 2500 * i
theorem lq_s {i : Nat} {σ' : St} {g' : Gh} (W : WH h C) (F : RF h 178 S) (t : tR C (some 0) 10) (n1 : C.1 ≤ 224 + 200 * i) (n2 : C.2.1 ≤ 200000 + 2500 * i) (R' : CR C' σ' g') (K : Kp C C') (w' : wSt σ') (Wz : WH z C') (Ez : Ext C C') (Fy : RF y 178 S') (Fm : FM 178 z y) (M' : MR S' σ') : lwI y (i + 1) := by
  have Rz := RF_kp F W Wz K.1 K.2.1
  obtain ⟨Wy, sy⟩ := WH_fm Rz Fy Fm Wz
  obtain ⟨_, _, k1, k2⟩ := K
  have s1 := sy.1
  have s2 := sy.2
  refine ⟨rfC C' y, S', σ', g', Wy, Fy, CR_ref R' w' rfC_o sy, M', w', fun b hb => ?_, by omega, by omega⟩
  have hb := (Option.some.inj hb).symm
  subst hb
  obtain ⟨b1, b2⟩ := t.up Ez 0 rfl
  exact ⟨by rw [s1]; exact b1, by rw [rfC_k (by omega)]; exact b2⟩
theorem lq_up {i : Nat} (I : lwI h i) : lwI h (i + 1) := by
  obtain ⟨C, S, σ, g, a1, a2, a3, a4, a5, a6, a7, a8⟩ := I
  exact ⟨C, S, σ, g, a1, a2, a3, a4, a5, a6, by omega, by omega⟩
end PLAW
