/-- base, the script's address, the array kinds' numbers, the texts' addresses -/
abbrev xB : Type := Nat × Nat × (Nat → ClassId) × (Nat → Option Nat)
def xtr (B : xB) : Value → Value
  | .ref a => .ref (B.1 + a)
  | .retAddr 0 => .ref B.2.1
  | .retAddr (k + 1) => va_rf (B.2.2.2 k)
  | v => v
theorem xtr_cat (B : xB) (v : Value) : (xtr B v).category = v.category := by
  unfold xtr
  split <;> first | rfl | (cases B.2.2.2 _ <;> rfl)
theorem xtr_cat_map (B : xB) (st : List Value) : ((st.map (xtr B)).map fun v => v.category).sum = xcat st := by
  unfold xcat
  rw [List.map_map]
  congr 1
  exact List.map_congr_left (fun v _ => xtr_cat B v)
def xi : Value → Int32
  | .int x => x
  | _ => 0
def xq (B : xB) : Value → Option Nat
  | .ref a => some (B.1 + a)
  | _ => none
def xe (B : xB) (c : Nat × List Value) : va_E := if c.1 < 12 then .inr (c.1, c.2.map (xtr B)) else if c.1 < 15 then .inl (B.2.2.1 c.1, c.2.length, .inl (fun j => xi (c.2.getD j .null))) else .inl (B.2.2.1 c.1, c.2.length, .inr (.inr (.inr (.inr (fun j => xq B (c.2.getD j .null))))))
def xW (B : xB) (h : xH) : va_W := (List.range h.1).map fun i => (B.1 + i, xe B (h.2.2 i))
theorem xW_get {B : xB} {h : xH} {a : Nat} (ha : a < h.1) : (xW B h)[a]? = some (B.1 + a, xe B (h.2.2 a)) := by
  simp [xW, ha]
theorem xW_some {B : xB} {h : xH} {k : Nat} {q : Nat × va_E} (hk : (xW B h)[k]? = some q) : k < h.1 ∧ q = (B.1 + k, xe B (h.2.2 k)) := by
  have hl : k < h.1 := by
    have := (List.getElem?_eq_some_iff.mp hk).1
    simpa [xW] using this
  rw [xW_get hl] at hk
  exact ⟨hl, (Option.some.inj hk).symm⟩
theorem xW_D (B : xB) (h : xH) : va_D (fun z => B.1 ≤ z) (xW B h) := by
  refine ⟨fun i j p q hi hj e => ?_, fun k q hk => ?_⟩
  · obtain ⟨-, rfl⟩ := xW_some hi
    obtain ⟨-, rfl⟩ := xW_some hj
    have e : B.1 + i = B.1 + j := e
    omega
  · obtain ⟨-, rfl⟩ := xW_some hk
    exact Nat.le_add_right _ _
theorem xW_set {B : xB} {h : xH} {a : Nat} (ha : a < h.1) (c : Nat × List Value) : (xW B h).set a (B.1 + a, xe B c) = xW B (xset h a c) := by
  apply List.ext_getElem?
  intro k
  rw [List.getElem?_set]
  by_cases hk : a = k
  · subst hk
    have h1 : a < (xW B h).length := by simpa [xW] using ha
    rw [if_pos rfl, if_pos h1, xW_get (h := xset h a c) ha]
    simp [xset]
  · rw [if_neg hk]
    by_cases hl : k < h.1
    · rw [xW_get hl, xW_get (h := xset h a c) hl]
      simp [xset, Ne.symm hk]
    · have h1 : (xW B h)[k]? = none := by simp [xW]; omega
      have h2 : (xW B (xset h a c))[k]? = none := by simp [xW, xset]; omega
      rw [h1, h2]
theorem xW_new (B : xB) (h : xH) (c : Nat × List Value) : xW B h ++ [(B.1 + h.1, xe B c)] = xW B (xnew h c) := by
  unfold xW xnew
  rw [List.range_succ, List.map_append]
  congr 1
  · apply List.map_congr_left
    intro i hi
    have := List.mem_range.mp hi
    simp [Nat.ne_of_lt this]
  · simp
def xpl (B : xB) (L : List Value) : List (Nat × Value) := (L.zipIdx.filter fun q => decide (q.1 ≠ .float 0)).map fun q => (q.2, xtr B q.1)
theorem xpl_mem {B : xB} {L : List Value} {i : Nat} {w : Value} : (i, w) ∈ xpl B L ↔ ∃ v, L[i]? = some v ∧ v ≠ .float 0 ∧ xtr B v = w := by
  unfold xpl
  simp only [List.mem_map, List.mem_filter, decide_eq_true_eq, Prod.mk.injEq]
  constructor
  · rintro ⟨⟨v, j⟩, ⟨h1, h2⟩, h3, h4⟩
    have h5 := List.mem_zipIdx_iff_getElem?.mp h1
    dsimp only at h3 h4 h5
    subst h3
    exact ⟨v, h5, h2, h4⟩
  · rintro ⟨v, h1, h2, h3⟩
    exact ⟨(v, i), ⟨List.mem_zipIdx_iff_getElem?.mpr h1, h2⟩, rfl, h3⟩
def xLr (B : xB) (ls : Array Slot) (nL : Nat) (L : List Value) : Prop := L.length = nL ∧ lv_has ls nL (xpl B L)
theorem xLr.at {B : xB} {ls : Array Slot} {nL : Nat} {L : List Value} (h : xLr B ls nL L) {i : Nat} {v : Value} (hi : L[i]? = some v) (hv : v ≠ .float 0) : ls[i]? = some (.val (xtr B v)) :=
  h.2.2.2 (i, xtr B v) (xpl_mem.mpr ⟨v, hi, hv, rfl⟩)
theorem xLr.st {B : xB} {ls : Array Slot} {nL : Nat} {L : List Value} {i : Nat} {v : Value} (hL : L.length = nL) (ho : xokst L i = true) (h : lv_has ls nL ((i, xtr B v) :: (xpl B L).filter (fun q => !(q.1 == i) && !(q.1 + 1 == i && q.2.category == 2)))) : xLr B ls nL (L.set i v) := by
  refine ⟨by simpa using hL, h.1, h.2.1, ?_⟩
  rintro ⟨j, w⟩ hq
  obtain ⟨u, h1, h2, h3⟩ := xpl_mem.mp hq
  rw [List.getElem?_set] at h1
  unfold xokst at ho
  simp only [Bool.and_eq_true, Bool.or_eq_true, decide_eq_true_eq, beq_iff_eq] at ho
  by_cases hij : i = j
  · subst hij
    rw [if_pos rfl, if_pos ho.1] at h1
    cases h1
    subst h3
    exact h.2.2 (i, xtr B v) List.mem_cons_self
  · rw [if_neg hij] at h1
    refine h.2.2 (j, w) (List.mem_cons_of_mem _ (List.mem_filter.mpr ⟨xpl_mem.mpr ⟨u, h1, h2, h3⟩, ?_⟩))
    have hc : w.category = u.category := by rw [← h3]; exact xtr_cat B u
    by_cases hj : j + 1 = i
    · rcases ho.2 with h0 | h0
      · omega
      · have e : i - 1 = j := by omega
        rw [e] at h0
        rw [List.getD_eq_getElem?_getD, h1] at h0
        have h0 : u.category = 1 := h0
        simp [Ne.symm hij, hc, h0]
    · simp [Ne.symm hij, hj]
def xtys (T : xT) (B : xB) : List (ClassId × FieldType) := [(B.2.2.1 12, .byte), (B.2.2.1 13, .int), (B.2.2.1 14, .boolean), (B.2.2.1 15, .object (xtE T 15)), (B.2.2.1 16, .object (xtE T 16)), (B.2.2.1 17, .object (xtE T 17)), (B.2.2.1 18, .object (xtE T 18))]
def xP (T : xT) (B : xB) (D : va_G) (h : xH) (H : Heap) : Prop := H.size = B.1 + h.1 ∧ va_P D (xtL T) (xW B h) H
def xEnv (T : xT) (B : xB) (D : va_G) (Ns : List Cond) (AO : List String) (U : State) : Prop := va_K D (xtL T) (xtys T B) U ∧ (∀ w ∈ Ns, va_Nw w U) ∧ (∀ k ∈ AO, va_AO k U) ∧ ∀ (mi : Nat) (mt : xMt), xtM T mi = some mt → ∀ (idx k : Nat), xtS T mi idx = some k → ∃ (tx : String) (a : Nat), B.2.2.2 k = some a ∧ vk_R mt.1.cls idx tx a U
/-- the library's texts, and two statics of it -/
def xTx (T : xT) (B : xB) (U : State) (H : Heap) : Prop := (∃ adK adV : Nat → Nat, vk_S (xtQ T).length ((xtQ T).map List.length) (xtQ T) adK adV (fun z => B.1 ≤ z) U H ∧ ∀ k : Nat, k < (xtQ T).length → B.2.2.2 k = some (adK k) ∧ B.2.2.2 (100 + k) = some (adV k)) ∧ va_Z "java/lang/String" "COMPACT_STRINGS" "Z" (.int 1) (fun z => B.1 ≤ z) U H ∧ va_Z "jdk/internal/util/Preconditions" "SIOOBE_FORMATTER" "Ljava/util/function/BiFunction;" (va_rf (B.2.2.2 200)) (fun z => B.1 ≤ z) U H
theorem xTx.moved {T : xT} {B : xB} {u U : State} {H : Heap} (hvm : u.vm.Alike U.vm) (h : xTx T B u H) : xTx T B U H := by
  obtain ⟨⟨adK, adV, h1, h2⟩, h3, h4⟩ := h
  exact ⟨⟨adK, adV, vk_S.moved hvm h1, h2⟩, va_Z.moved hvm h3, va_Z.moved hvm h4⟩
theorem xTx.kept {T : xT} {B : xB} {U : State} {H H1 : Heap} (h : xTx T B U H) (hq : ∀ a : Nat, a < H.size → ¬ B.1 ≤ a → H1[a]? = H[a]?) : xTx T B U H1 := by
  obtain ⟨⟨adK, adV, h1, h2⟩, h3, h4⟩ := h
  exact ⟨⟨adK, adV, h1.kept hq, h2⟩, h3.kept hq, h4.kept hq⟩
/-- names of the fields -/
def xfs (ci k : Nat) : String × String × String := if ci = 20 then (if k = 0 then ("java/lang/String", "value", "[B") else ("java/lang/String", "coder", "B")) else if k = 0 then ("java/lang/String", "COMPACT_STRINGS", "Z") else ("jdk/internal/util/Preconditions", "SIOOBE_FORMATTER", "Ljava/util/function/BiFunction;")
