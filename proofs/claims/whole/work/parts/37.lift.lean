section XLIFT
abbrev EX {β : Type} (F : Option β) (g : xH → β) (P : xH → Prop) : Prop := ∃ z, F = some (g z) ∧ P z
theorem EX.bd {α β : Type} {a : Option α} {x : α} {f : α → Option β} {g : xH → β} {P : xH → Prop} (e : a = some x) (k : EX (f x) g P) : EX (a.bind f) g P := by rw [e]; exact k
theorem EX.bdS {α β : Type} {x : α} {f : α → Option β} {g : xH → β} {P : xH → Prop} (k : EX (f x) g P) : EX ((some x).bind f) g P := k
theorem EX.pos {β : Type} {c : Prop} {i : Decidable c} {A B : Option β} {g : xH → β} {P : xH → Prop} (hc : c) (k : EX A g P) : EX (@ite (Option β) c i A B) g P := by rw [if_pos hc]; exact k
theorem EX.neg {β : Type} {c : Prop} {i : Decidable c} {A B : Option β} {g : xH → β} {P : xH → Prop} (hc : ¬ c) (k : EX B g P) : EX (@ite (Option β) c i A B) g P := by rw [if_neg hc]; exact k
theorem xfit_b {v : Int32} (h : v &&& 1 = v) : xfit .boolean (.int v) = true := by
  have e : narrow .boolean (.int v) = .int v := congrArg Value.int h
  have h2 := pk_and v (m := 1) 1 (by decide)
  rw [h] at h2
  have h3 : v.toBitVec.toNat % 2 ^ 1 = 0 ∨ v.toBitVec.toNat % 2 ^ 1 = 1 := by omega
  rcases h3 with h3 | h3 <;> rw [h3] at h2 <;> subst h2 <;> decide
def mA (S : mS) (k : Nat) : List Value := (List.range (mSz.getD k 0)).map fun i => .int (S.2 k i)
def RF (h : xH) (m : Nat) (S : mS) : Prop := RM h m (S.1, mA S)
abbrev mQ (q : Nat) : Prop := q < 74 ∧ mO q ≠ 0 ∧ mT q = 13
abbrev mZ (q : Nat) : Prop := q < 74 ∧ mO q ≠ 0 ∧ mT q = 14
abbrev QS (m : Nat) (h : xH) (r : mS) : xH → Prop := fun z => RF z m r ∧ FM m h z
theorem EX.uS {β : Type} {f : Option β} {g : xH → β} {m : Nat} {h h1 : xH} {r : mS} (F : FM m h h1) (k : EX f g (QS m h1 r)) : EX f g (QS m h r) := by
  obtain ⟨z, e, p, q⟩ := k
  exact ⟨z, e, p, F.tr q⟩
theorem xin_nI {i : Int32} {n : Nat} (h : xout i n = false) : ∃ j, i = nI j ∧ j < n ∧ j < 2 ^ 31 ∧ i.toNatClampNeg = j := by
  have h1 := of_decide_eq_false h
  have h2 : ¬ i < 0 := fun h9 => h1 (Or.inl h9)
  obtain ⟨j, hj, rfl⟩ := nI_of h2
  have h3 : ¬ n ≤ (nI j).toNatClampNeg := fun h9 => h1 (Or.inr h9)
  rw [nI_clamp hj] at h3
  exact ⟨j, rfl, by omega, hj, nI_clamp hj⟩
section
variable {h : xH} {m : Nat} {S S1 : mS}
theorem RF.cv (H : RF h m S) : xcv h (some m) 11 = some () := RM.cv H
theorem RF.gI (H : RF h m S) (k : Nat) (hk : k < 74 := by decide) (h0 : mO k = 0 := by decide) : xgI h (some m) 11 k = some (S.1 k) := RM.gI H k hk h0
theorem RF.gR (H : RF h m S) (k : Nat) (hk : k < 74 := by decide) (h0 : mO k ≠ 0 := by decide) : xgR h (some m) 11 k = some (some (m + mO k)) := RM.gR H k hk h0
theorem mA_at {k i : Nat} (hi : i < mSz.getD k 0) : (mA S k)[i]? = some (.int (S.2 k i)) := by
  unfold mA
  rw [List.getElem?_map, List.getElem?_range hi]
  rfl
theorem mA_len {k : Nat} : (mA S k).length = mSz.getD k 0 := by simp [mA]
theorem RF.aX (H : RF h m S) {q tg : Nat} (hq : q < 74 ∧ mO q ≠ 0 ∧ mT q = tg) {i v : Int32} (ev : sLd S q i = some v) : xaI h tg (some (m + mO q)) i = some v := by
  obtain ⟨q1, q2, rfl⟩ := hq
  unfold sLd at ev
  by_cases hb : xout i (mSz.getD q 0) = false
  · rw [if_pos hb] at ev
    obtain ⟨j, rfl, hj, _, ej⟩ := xin_nI hb
    rw [ej] at ev
    rw [← Option.some.inj ev]
    exact RM.aI H q j (mA_at hj) q1 q2
  · rw [if_neg hb] at ev
    cases ev
theorem RF.aI (H : RF h m S) {q : Nat} (hq : mQ q) {i v : Int32} (ev : sLd S q i = some v) : xaI h 13 (some (m + mO q)) i = some v := H.aX hq ev
theorem RF.aZ (H : RF h m S) {q : Nat} (hq : mZ q) {i v : Int32} (ev : sLd S q i = some v) : xaI h 14 (some (m + mO q)) i = some v := H.aX hq ev
theorem RF.aW (H : RF h m S) {q tg : Nat} {f : Int32 → Int32} (hq : q < 74 ∧ mO q ≠ 0 ∧ mT q = tg) {i x : Int32} (ev : sSt S q i (f x) = some S1) : ∃ h1, xaS h tg f (some (m + mO q)) i x = some h1 ∧ RF h1 m S1 ∧ FM m h h1 := by
  obtain ⟨q1, q2, rfl⟩ := hq
  unfold sSt at ev
  by_cases hb : xout i (mSz.getD q 0) = false
  · rw [if_pos hb] at ev
    obtain ⟨j, rfl, hj, _, ej⟩ := xin_nI hb
    rw [ej] at ev
    obtain ⟨h1, e1, R1, F1⟩ := RM.aS H q j f x (by rw [show ((S.1, mA S) : xS).2 q = mA S q from rfl, mA_len]; exact hj) q1 q2
    refine ⟨h1, e1, ?_, F1⟩
    rw [← Option.some.inj ev]
    have e2 : sA (S.1, mA S) q j (f x) = ((sSet S q j (f x)).1, mA (sSet S q j (f x))) := by
      unfold sA sSet
      refine Prod.ext rfl (funext fun k => ?_)
      dsimp only
      by_cases hk : k = q
      · subst hk
        rw [if_pos rfl]
        apply List.ext_getElem?
        intro n
        rw [List.getElem?_set]
        by_cases hn : n < mSz.getD k 0
        · rw [mA_at hn, mA_at hn]
          by_cases hjn : j = n
          · subst hjn
            rw [if_pos rfl, if_pos (by rw [mA_len]; exact hj)]
            simp
          · rw [if_neg hjn]
            have : ¬ (k = k ∧ n = j) := fun h9 => hjn h9.2.symm
            show _ = some (Value.int (if k = k ∧ n = j then f x else S.2 k n))
            rw [if_neg this]
        · have hn' : ¬ j = n := by omega
          rw [if_neg hn', List.getElem?_eq_none (by rw [mA_len]; omega), List.getElem?_eq_none (by rw [mA_len]; omega)]
      · rw [if_neg hk]
        simp [mA, hk]
    rw [e2] at R1
    exact R1
  · rw [if_neg hb] at ev
    cases ev
theorem RF.aS (H : RF h m S) {q : Nat} (hq : mQ q) {i x : Int32} (ev : sSt S q i x = some S1) : ∃ h1, xaS h 13 (fun x => x) (some (m + mO q)) i x = some h1 ∧ RF h1 m S1 ∧ FM m h h1 := H.aW (f := fun x => x) hq ev
theorem RF.aB (H : RF h m S) {q : Nat} (hq : mZ q) {i x : Int32} (ev : sSt S q i (vp_nar .boolean x) = some S1) : ∃ h1, xaS h 14 (vp_nar .boolean) (some (m + mO q)) i x = some h1 ∧ RF h1 m S1 ∧ FM m h h1 := H.aW hq ev
theorem RF.pF (H : RF h m S) (k : Nat) {v : Int32} {ty : FieldType} (hf : xfit ty (.int v) = true) (ev : some (sPut S k v) = some S1) (hk : k < 74 := by decide) (h0 : mO k = 0 := by decide) : ∃ h1, xpF h (some m) 11 k ty (.int v) = some h1 ∧ RF h1 m S1 ∧ FM m h h1 := by
  obtain ⟨h1, e1, R1, F1⟩ := RM.pF H k v hf hk h0
  refine ⟨h1, e1, ?_, F1⟩
  rw [← Option.some.inj ev]
  exact R1
end
def cV (C : xC) (a k : Nat) : Value := if cF (cK C a).1 k = 99 then .int (cI C a k) else xrv (cR C a k)
def cO (C : xC) (a : Nat) : Nat × List Value := ((cK C a).1, (List.range (cK C a).2).map (cV C a))
def tR (C : xC) (o : Option Nat) (ci : Nat) : Prop := ∀ a, o = some a → a < C.1 ∧ (cK C a).1 = ci
def Ext (C C1 : xC) : Prop := C.1 ≤ C1.1 ∧ ∀ a, a < C.1 → cK C1 a = cK C a
def WH (h : xH) (C : xC) : Prop := h.1 = C.1 ∧ h.2.1 = C.2.1 ∧ (∀ a, a < C.1 → h.2.2 a = cO C a) ∧ ∀ a, a < C.1 → (((cK C a).1 < 12 ∧ (cK C a).2 = cN (cK C a).1) ∨ (12 ≤ (cK C a).1 ∧ (cK C a).1 < 19 ∧ (cK C a).2 < 2 ^ 31)) ∧ ∀ k, k < (cK C a).2 → cF (cK C a).1 k ≠ 99 → tR C (cR C a k) (cF (cK C a).1 k)
abbrev QC (C r : xC) : xH → Prop := fun z => WH z r ∧ Ext C r
abbrev QR (ci : Nat) (C : xC) (r : Option Nat × xC) : xH → Prop := fun z => WH z r.2 ∧ Ext C r.2 ∧ tR r.2 r.1 ci
variable {h : xH} {C C1 C2 : xC} {o v : Option Nat} {a ci cj k tg : Nat}
theorem Ext.rfl' : Ext C C := ⟨Nat.le_refl _, fun _ _ => rfl⟩
theorem Ext.tr (x : Ext C C1) (y : Ext C1 C2) : Ext C C2 := ⟨Nat.le_trans x.1 y.1, fun b hb => (y.2 b (Nat.lt_of_lt_of_le hb x.1)).trans (x.2 b hb)⟩
theorem tR_none : tR C none ci := fun _ e => by cases e
theorem tR.up (t : tR C o ci) (E : Ext C C1) : tR C1 o ci := fun b e => ⟨Nat.lt_of_lt_of_le (t b e).1 E.1, by rw [E.2 b (t b e).1]; exact (t b e).2⟩
theorem EX.uC {β : Type} {f : Option β} {g : xH → β} {r : xC} (E : Ext C C1) (k : EX f g (QC C1 r)) : EX f g (QC C r) := by
  obtain ⟨z, e, p, q⟩ := k
  exact ⟨z, e, p, E.tr q⟩
theorem EX.uR {β : Type} {f : Option β} {g : xH → β} {r : Option Nat × xC} (E : Ext C C1) (k : EX f g (QR ci C1 r)) : EX f g (QR ci C r) := by
  obtain ⟨z, e, p, q, t⟩ := k
  exact ⟨z, e, p, E.tr q, t⟩
theorem cO_at (hk : k < (cK C a).2) : (cO C a).2[k]? = some (cV C a k) := by simp [cO, List.getElem?_range hk]
theorem WH.ob (H : WH h C) (e : o = some a) (t : tR C o ci) : a < h.1 ∧ h.2.2 a = (ci, (cO C a).2) ∧ (cK C a).1 = ci ∧ a < C.1 := by
  obtain ⟨t1, t2⟩ := t a e
  refine ⟨by rw [H.1]; exact t1, ?_, t2, t1⟩
  rw [H.2.2.1 a t1]
  exact Prod.ext t2 rfl
theorem WH.ln (H : WH h C) (e : o = some a) (t : tR C o ci) (h1 : ci < 12) : (cK C a).2 = cN ci := by
  obtain ⟨_, _, t2, t1⟩ := H.ob e t
  rcases (H.2.2.2 a t1).1 with h9 | h9
  · rw [h9.2, t2]
  · omega
theorem WH.l31 (H : WH h C) (e : o = some a) (t : tR C o ci) (h1 : 12 ≤ ci) : (cK C a).2 < 2 ^ 31 := by
  obtain ⟨_, _, t2, t1⟩ := H.ob e t
  rcases (H.2.2.2 a t1).1 with h9 | h9
  · omega
  · exact h9.2.2
theorem cO_l : (cO C a).2.length = (cK C a).2 := by simp [cO]
theorem cV_I (t : (cK C a).1 = ci) (h3 : cF ci k = 99) : cV C a k = .int (cI C a k) := by
  unfold cV
  rw [t, if_pos h3]
theorem cV_R (t : (cK C a).1 = ci) (h3 : cF ci k ≠ 99) : cV C a k = xrv (cR C a k) := by
  unfold cV
  rw [t, if_neg h3]
theorem WH.gI (H : WH h C) (e : o = some a) (t : tR C o ci) (h1 : ci < 12) (h2 : k < cN ci) (h3 : cF ci k = 99) : xgI h o ci k = some (cI C a k) := by
  obtain ⟨t1, t2, t3, _⟩ := H.ob e t
  subst e
  refine xgI_of t2 t1 h1 ?_
  rw [cO_at (by rw [H.ln rfl t h1]; exact h2), cV_I t3 h3]
theorem WH.gR (H : WH h C) (e : o = some a) (t : tR C o ci) (h1 : ci < 12) (h2 : k < cN ci) (h3 : cF ci k ≠ 99) : xgR h o ci k = some (cR C a k) := by
  obtain ⟨t1, t2, t3, _⟩ := H.ob e t
  subst e
  refine xgR_of t2 t1 h1 ?_
  rw [cO_at (by rw [H.ln rfl t h1]; exact h2), cV_R t3 h3]
theorem WH.tyR (H : WH h C) (e : o = some a) (t : tR C o ci) (h1 : ci < 12) (h2 : k < cN ci) (h3 : cF ci k ≠ 99) : tR C (cR C a k) (cF ci k) := by
  obtain ⟨t1, t2, t3, t4⟩ := H.ob e t
  have := (H.2.2.2 a t4).2 k (by rw [H.ln e t h1]; exact h2) (by rw [t3]; exact h3)
  rw [t3] at this
  exact this
theorem WH.cv (H : WH h C) (e : o = some a) (t : tR C o ci) (h1 : ci < 12) : xcv h o ci = some () := by
  obtain ⟨t1, t2, _⟩ := H.ob e t
  subst e
  exact xcv_of t2 t1 h1
theorem uI_O {b : Nat} {x : Int32} (hb : b ≠ a) : cO (uI C a k x) b = cO C b := by
  unfold cO cV cK cI cR uI
  simp [hb]
theorem uR_O {b : Nat} (hb : b ≠ a) : cO (uR C a k v) b = cO C b := by
  unfold cO cV cK cI cR uR
  simp [hb]
theorem uI_at {x : Int32} (t : (cK C a).1 = ci) (h3 : cF ci k = 99) : cO (uI C a k x) a = (ci, (cO C a).2.set k (.int x)) := by
  refine Prod.ext t ?_
  apply List.ext_getElem?
  intro j
  rw [List.getElem?_set, cO_l]
  by_cases hj : j < (cK C a).2
  · rw [cO_at (C := uI C a k x) hj, cO_at hj]
    by_cases hjk : k = j
    · subst hjk
      rw [if_pos rfl, if_pos hj, cV_I (C := uI C a k x) t h3]
      simp [cI, uI]
    · rw [if_neg hjk]
      unfold cV cI cR cK uI
      have hkj : ¬ j = k := fun h9 => hjk h9.symm
      simp [hkj]
  · have e1 : (cO (uI C a k x) a).2[j]? = none := List.getElem?_eq_none (by rw [cO_l]; exact Nat.not_lt.mp hj)
    have e2 : (cO C a).2[j]? = none := List.getElem?_eq_none (by rw [cO_l]; exact Nat.not_lt.mp hj)
    rw [e1, e2]
    by_cases hjk : k = j
    · rw [if_pos hjk, if_neg (by omega)]
    · rw [if_neg hjk]
theorem uR_at (t : (cK C a).1 = ci) (h3 : cF ci k ≠ 99) : cO (uR C a k v) a = (ci, (cO C a).2.set k (xrv v)) := by
  refine Prod.ext t ?_
  apply List.ext_getElem?
  intro j
  rw [List.getElem?_set, cO_l]
  by_cases hj : j < (cK C a).2
  · rw [cO_at (C := uR C a k v) hj, cO_at hj]
    by_cases hjk : k = j
    · subst hjk
      rw [if_pos rfl, if_pos hj, cV_R (C := uR C a k v) t h3]
      simp [cR, uR]
    · rw [if_neg hjk]
      unfold cV cI cR cK uR
      have hkj : ¬ j = k := fun h9 => hjk h9.symm
      simp [hkj]
  · have e1 : (cO (uR C a k v) a).2[j]? = none := List.getElem?_eq_none (by rw [cO_l]; exact Nat.not_lt.mp hj)
    have e2 : (cO C a).2[j]? = none := List.getElem?_eq_none (by rw [cO_l]; exact Nat.not_lt.mp hj)
    rw [e1, e2]
    by_cases hjk : k = j
    · rw [if_pos hjk, if_neg (by omega)]
    · rw [if_neg hjk]
theorem WH.wI (H : WH h C) (t : (cK C a).1 = ci) (h3 : cF ci k = 99) (x : Int32) : WH (xset h a (ci, (cO C a).2.set k (.int x))) (uI C a k x) ∧ Ext C (uI C a k x) := by
  refine ⟨⟨H.1, H.2.1, fun b hb => ?_, fun b hb => H.2.2.2 b hb⟩, Nat.le_refl _, fun _ _ => rfl⟩
  by_cases hba : b = a
  · subst hba
    rw [xset_at, uI_at t h3]
  · rw [xset_ne hba, uI_O hba]
    exact H.2.2.1 b hb
theorem WH.wR (H : WH h C) (t : (cK C a).1 = ci) (h3 : cF ci k ≠ 99) (tv : tR C v (cF ci k)) : WH (xset h a (ci, (cO C a).2.set k (xrv v))) (uR C a k v) ∧ Ext C (uR C a k v) := by
  refine ⟨⟨H.1, H.2.1, fun b hb => ?_, fun b hb => ⟨(H.2.2.2 b hb).1, fun j hj hj2 => ?_⟩⟩, Nat.le_refl _, fun _ _ => rfl⟩
  · by_cases hba : b = a
    · subst hba
      rw [xset_at, uR_at t h3]
    · rw [xset_ne hba, uR_O hba]
      exact H.2.2.1 b hb
  · by_cases hba : b = a ∧ j = k
    · obtain ⟨rfl, rfl⟩ := hba
      have e1 : cR (uR C b j v) b j = v := by simp [cR, uR]
      have e2 : (cK (uR C b j v) b).1 = ci := t
      rw [e1, e2]
      exact tv
    · have e1 : cR (uR C a k v) b j = cR C b j := by simp [cR, uR, hba]
      rw [e1]
      exact (H.2.2.2 b hb).2 j hj hj2
theorem WH.pI (H : WH h C) (e : o = some a) (t : tR C o ci) (h1 : ci < 12) (h2 : k < cN ci) (h3 : cF ci k = 99) {ty : FieldType} {x : Int32} (hf : xfit ty (.int x) = true) (eC : some (uI C a k x) = some C1) : ∃ h1, xpF h o ci k ty (.int x) = some h1 ∧ WH h1 C1 ∧ Ext C C1 := by
  obtain ⟨t1, t2, t3, _⟩ := H.ob e t
  have hl := H.ln e t h1
  subst e
  rw [← Option.some.inj eC]
  exact ⟨_, xpF_of t2 t1 h1 (by rw [cO_l, hl]; exact h2) hf, H.wI t3 h3 x⟩
theorem WH.pR (H : WH h C) (e : o = some a) (t : tR C o ci) (tv : tR C v (cF ci k)) (h1 : ci < 12) (h2 : k < cN ci) (h3 : cF ci k ≠ 99) {ty : FieldType} (f1 : fits ty (.ref 0) = true) (f2 : fits ty .null = true) (eC : some (uR C a k v) = some C1) : ∃ h1, xpF h o ci k ty (xrv v) = some h1 ∧ WH h1 C1 ∧ Ext C C1 := by
  obtain ⟨t1, t2, t3, _⟩ := H.ob e t
  have hl := H.ln e t h1
  subst e
  rw [← Option.some.inj eC]
  refine ⟨_, xpF_of t2 t1 h1 (by rw [cO_l, hl]; exact h2) ?_, H.wR t3 h3 tv⟩
  cases v with
  | none => exact f2
  | some b => exact f1
theorem cF_i (h1 : 12 ≤ tg) (h2 : tg < 15) : cF tg k = 99 := by
  unfold cF
  rw [if_neg (by omega)]
  have : tg = 12 ∨ tg = 13 ∨ tg = 14 := by omega
  rcases this with rfl | rfl | rfl <;> rfl
theorem WH.ld (H : WH h C) (e : o = some a) (t : tR C o tg) (h1 : 12 ≤ tg) (h2 : tg < 15) {i x : Int32} (ev : cLd C a i = some x) : xaI h tg o i = some x := by
  obtain ⟨t1, t2, t3, _⟩ := H.ob e t
  have hl := H.l31 e t h1
  subst e
  unfold cLd at ev
  by_cases hb : xout i (cK C a).2 = false
  · rw [if_pos hb] at ev
    obtain ⟨j, rfl, hj, _, ej⟩ := xin_nI hb
    rw [ej] at ev
    refine xaI_of t2 t1 (by rw [cO_l]; exact hl) ?_
    rw [cO_at hj, cV_I t3 (cF_i h1 h2), ← Option.some.inj ev]
  · rw [if_neg hb] at ev
    cases ev
theorem cF_r (h1 : 15 ≤ tg) (h2 : tg < 19) : cF tg k ≠ 99 ∧ cF tg k = [0, 2, 6, 9].getD (tg - 15) 99 := by
  unfold cF
  rw [if_neg (by omega)]
  have : tg = 15 ∨ tg = 16 ∨ tg = 17 ∨ tg = 18 := by omega
  rcases this with rfl | rfl | rfl | rfl <;> decide
theorem WH.lR (H : WH h C) (e : o = some a) (t : tR C o tg) (h1 : 15 ≤ tg) (h2 : tg < 19) {i : Int32} (ev : cLR C a i = some v) : xaR h o i = some v := by
  obtain ⟨t1, t2, t3, _⟩ := H.ob e t
  have hl := H.l31 e t (by omega)
  subst e
  unfold cLR at ev
  by_cases hb : xout i (cK C a).2 = false
  · rw [if_pos hb] at ev
    have hb2 := hb
    obtain ⟨j, rfl, hj, _, ej⟩ := xin_nI hb
    rw [ej] at ev
    unfold xaR xaV
    simp only [t2]
    rw [if_pos ⟨t1, ⟨h1, h2⟩, by rw [cO_l]; exact hb2⟩, ej, cO_at hj, cV_R t3 (cF_r h1 h2).1, Option.some.inj ev]
    cases v <;> rfl
  · rw [if_neg hb] at ev
    cases ev
theorem WH.tL (H : WH h C) (e : o = some a) (t : tR C o ci) (h1 : 15 ≤ ci) (h2 : ci < 19) {i : Int32} (ev : cLR C a i = some v) : tR C v (cF ci 0) := by
  obtain ⟨t1, t2, t3, t4⟩ := H.ob e t
  unfold cLR at ev
  by_cases hb : xout i (cK C a).2 = false
  · rw [if_pos hb] at ev
    obtain ⟨j, rfl, hj, _, ej⟩ := xin_nI hb
    rw [ej] at ev
    have := (H.2.2.2 a t4).2 j hj (by rw [t3]; exact (cF_r h1 h2).1)
    rw [t3, (cF_r h1 h2).2, Option.some.inj ev] at this
    rw [(cF_r h1 h2).2]
    exact this
  · rw [if_neg hb] at ev
    cases ev
theorem WH.st (H : WH h C) {f : Int32 → Int32} (e : o = some a) (t : tR C o tg) (h1 : 12 ≤ tg) (h2 : tg < 15) {i x : Int32} (ev : cSt C a i (f x) = some C1) : ∃ h1, xaS h tg f o i x = some h1 ∧ WH h1 C1 ∧ Ext C C1 := by
  obtain ⟨t1, t2, t3, _⟩ := H.ob e t
  have hl := H.l31 e t h1
  subst e
  unfold cSt at ev
  by_cases hb : xout i (cK C a).2 = false
  · rw [if_pos hb] at ev
    obtain ⟨j, rfl, hj, _, ej⟩ := xin_nI hb
    rw [ej] at ev
    rw [← Option.some.inj ev]
    exact ⟨_, xaS_of t2 t1 (by rw [cO_l]; exact hl) (by rw [cO_l]; exact hj), H.wI t3 (cF_i h1 h2) _⟩
  · rw [if_neg hb] at ev
    cases ev
theorem WH.sR (H : WH h C) (e : o = some a) (t : tR C o tg) (h1 : 15 ≤ tg) (h2 : tg < 19) (tv : tR C v (cF tg 0)) {i : Int32} (ev : cSR C a i v = some C1) : ∃ h1, xaT h o i v = some h1 ∧ WH h1 C1 ∧ Ext C C1 := by
  obtain ⟨t1, t2, t3, t4⟩ := H.ob e t
  subst e
  unfold cSR at ev
  by_cases hb : xout i (cK C a).2 = false
  · rw [if_pos hb] at ev
    have hb2 := hb
    obtain ⟨j, rfl, hj, _, ej⟩ := xin_nI hb
    rw [ej] at ev
    rw [← Option.some.inj ev]
    have tv2 : tR C v (cF tg j) := by rw [(cF_r h1 h2).2]; rw [(cF_r h1 h2).2] at tv; exact tv
    refine ⟨_, ?_, H.wR t3 (cF_r h1 h2).1 tv2⟩
    unfold xaT
    simp only [t2]
    have ho : xaO h a v = true := by
      unfold xaO
      cases v with
      | none => rfl
      | some b =>
        obtain ⟨b1, b2⟩ := tv b rfl
        rw [(cF_r h1 h2).2] at b2
        have b3 := H.2.2.1 b b1
        have b4 := H.1
        simp [b3, cO, t2, b2, b4, b1]
    simp [t1, h1, h2, ho, hb2, cO_l, ej]
  · rw [if_neg hb] at ev
    cases ev
theorem WH.len (H : WH h C) (e : o = some a) (t : tR C o tg) (h1 : 12 ≤ tg) (h2 : tg < 19) : xaN h o = some (Int32.ofNat (cK C a).2) := by
  obtain ⟨t1, t2, t3, _⟩ := H.ob e t
  subst e
  have := xaN_of t2 t1 h1 h2
  rw [cO_l] at this
  exact this
theorem cAdd_O {b n : Nat} (hb : b < C.1) : cO (cAdd C ci n) b = cO C b := by
  have h1 : b ≠ C.1 := by omega
  unfold cO cV cK cI cR cAdd
  simp [h1]
theorem WH.add (H : WH h C) {n : Nat} {fs : List Value} (hfs : fs = (List.range n).map fun k => if cF ci k = 99 then Value.int 0 else .null) (hn : (ci < 12 ∧ n = cN ci) ∨ (12 ≤ ci ∧ ci < 19 ∧ n < 2 ^ 31)) : h.1 = C.1 ∧ tR (cAdd C ci n) (some C.1) ci ∧ WH (xnew h (ci, fs)) (cAdd C ci n) ∧ Ext C (cAdd C ci n) := by
  have E : Ext C (cAdd C ci n) := by
    refine ⟨Nat.le_succ _, fun b hb => ?_⟩
    have h1 : b ≠ C.1 := by omega
    simp [cK, cAdd, h1]
  have e0 : cK (cAdd C ci n) C.1 = (ci, n) := by simp [cK, cAdd]
  have e1 : ∀ k, cR (cAdd C ci n) C.1 k = none := by simp [cR, cAdd]
  have e2 : ∀ k, cI (cAdd C ci n) C.1 k = 0 := by simp [cI, cAdd]
  have hlen : fs.length = n := by rw [hfs]; simp
  refine ⟨H.1, fun b eb => ?_, ⟨?_, ?_, fun b hb => ?_, fun b hb => ?_⟩, E⟩
  · cases eb
    exact ⟨Nat.lt_succ_self _, by rw [e0]⟩
  · show h.1 + 1 = C.1 + 1
    rw [H.1]
  · show h.2.1 + fs.length = C.2.1 + n
    rw [H.2.1, hlen]
  · have hb2 : b < C.1 + 1 := hb
    by_cases hbc : b = C.1
    · subst hbc
      rw [← H.1, xnew_at, H.1]
      unfold cO
      rw [e0, hfs]
      refine Prod.ext rfl (List.map_congr_left fun k _ => ?_)
      unfold cV
      rw [e0, e1, e2]
      rfl
    · rw [xnew_ne (by rw [H.1]; exact hbc), cAdd_O (by omega)]
      exact H.2.2.1 b (by omega)
  · have hb2 : b < C.1 + 1 := hb
    by_cases hbc : b = C.1
    · subst hbc
      rw [e0]
      refine ⟨hn, fun k _ _ => ?_⟩
      rw [e1]
      exact tR_none
    · have hb3 : b < C.1 := by omega
      rw [E.2 b hb3]
      refine ⟨(H.2.2.2 b hb3).1, fun k hk hk2 => ?_⟩
      have e3 : cR (cAdd C ci n) b k = cR C b k := by simp [cR, cAdd, hbc]
      rw [e3]
      exact ((H.2.2.2 b hb3).2 k hk hk2).up E
theorem WH.new (H : WH h C) {fs : List Value} (h1 : ci < 12) (hfs : fs = (List.range (cN ci)).map fun k => if cF ci k = 99 then Value.int 0 else .null) (eC : some (cNew C ci) = some C1) : ∃ h1, some (xnew h (ci, fs)) = some h1 ∧ h.1 = C.1 ∧ tR C1 (some C.1) ci ∧ WH h1 C1 ∧ Ext C C1 := by
  rw [← Option.some.inj eC]
  exact ⟨_, rfl, H.add hfs (Or.inl ⟨h1, rfl⟩)⟩
theorem WH.nAI (H : WH h C) (h1 : 12 ≤ tg) (h2 : tg < 15) {n : Int32} (eC : cNA C tg n = some C1) : ∃ h1, xnA h tg (.int 0) n = some h1 ∧ h.1 = C.1 ∧ tR C1 (some C.1) tg ∧ WH h1 C1 ∧ Ext C C1 := by
  unfold cNA at eC
  by_cases hb : ¬ n < 0 ∧ n.toNatClampNeg * 8 ≤ 536870912
  · rw [if_pos hb] at eC
    rw [← Option.some.inj eC]
    refine ⟨xnew h (tg, List.replicate n.toNatClampNeg (.int 0)), by unfold xnA; rw [if_pos hb], H.add ?_ (Or.inr ⟨h1, by omega, by omega⟩)⟩
    apply List.ext_getElem?
    intro j
    have hf : cF tg j = 99 := cF_i h1 h2
    by_cases hj : j < n.toNatClampNeg
    · simp [List.getElem?_replicate, hj, List.getElem?_range hj, hf]
    · simp [List.getElem?_replicate, hj]
  · rw [if_neg hb] at eC
    cases eC
theorem WH.nAR (H : WH h C) (h1 : 15 ≤ tg) (h2 : tg < 19) {n : Int32} (eC : cNA C tg n = some C1) : ∃ h1, xnA h tg .null n = some h1 ∧ h.1 = C.1 ∧ tR C1 (some C.1) tg ∧ WH h1 C1 ∧ Ext C C1 := by
  unfold cNA at eC
  by_cases hb : ¬ n < 0 ∧ n.toNatClampNeg * 8 ≤ 536870912
  · rw [if_pos hb] at eC
    rw [← Option.some.inj eC]
    refine ⟨xnew h (tg, List.replicate n.toNatClampNeg .null), by unfold xnA; rw [if_pos hb], H.add ?_ (Or.inr ⟨by omega, h2, by omega⟩)⟩
    apply List.ext_getElem?
    intro j
    have hf := (cF_r (k := j) h1 h2).1
    by_cases hj : j < n.toNatClampNeg
    · simp [List.getElem?_replicate, hj, List.getElem?_range hj, hf]
    · simp [List.getElem?_replicate, hj]
  · rw [if_neg hb] at eC
    cases eC
end XLIFT
