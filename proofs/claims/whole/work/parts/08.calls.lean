/-- a method that may be called -/
def xOKm (Ts : List Cond) (mt : xMt) : Prop := plainName mt.1.cls = true ∧ Cond.code mt.1 mt.2.1 mt.2.2.1 mt.2.2.2.1 ∈ Ts ∧ Cond.initialized mt.1.cls ∈ Ts ∧ (mt.1.cls ≠ "java/lang/invoke/MethodHandle" ∧ mt.1.cls ≠ "java/lang/invoke/VarHandle" ∧ (parseMethodDescriptor mt.1.desc).map (fun d => d.parameters.length) = some mt.2.2.2.2) ∧ mt.2.2.1 ≤ 40
def xOKn (Ns : List Cond) : Prop := ∀ w ∈ Ns, (∃ (a : String) (i : Nat) (b n d k : String), w = .fieldLinkNest a i b n d k) ∨ ∃ (a : String) (i : Nat) (x : MethodName) (k : String), w = .methodLinkNest a i x k
def xOKi (T : xT) : Prop := ∀ (mi : Nat) (mt : xMt), xtM T mi = some mt → ∀ (pc : Nat) (ins : Jvm.ClassFile.Instr) (len : Nat), xtI T mi pc = some (ins, len) → decode mt.2.1 pc = .ok (ins, len)
def xOKv (T : xT) (Ts Ns : List Cond) : Prop := ∀ (mi : Nat) (mt : xMt), xtM T mi = some mt → ∀ (idx kd mj ci : Nat), xtV T mi idx = some (kd, mj, ci) →
  (kd < 6 → ∃ mt' : xMt, xtM T mj = some mt' ∧ xOKm Ts mt' ∧
    (kd < 2 → Cond.instanceMethod mt'.1 ∈ Ts ∧ Cond.selects mt'.1.cls mt'.1 mt'.1 ∈ Ts ∧ ∃ (F : u_T) (N : Nat), (xtL T)[ci]? = some (mt'.1.cls, F, N)) ∧
    (kd = 2 ∨ kd = 3 → mt'.1.name = "<init>" ∧ Cond.instanceMethod mt'.1 ∈ Ts ∧ mt'.2.2.2.1 = none) ∧
    (kd = 4 ∨ kd = 5 → Cond.static mt'.1 ∈ Ts) ∧
    (kd = 0 ∨ kd = 2 ∨ kd = 4 → Cond.methodLink mt.1.cls idx mt'.1 ∈ Ts) ∧
    (kd = 1 ∨ kd = 3 ∨ kd = 5 → ∃ host, Cond.methodLinkNest mt.1.cls idx mt'.1 host ∈ Ns)) ∧
  (kd = 6 → Cond.methodLink mt.1.cls idx Lib.objectInit ∈ Ts ∧ Cond.instanceMethod Lib.objectInit ∈ Ts ∧ Cond.code Lib.objectInit ⟨#[0xb1]⟩ 1 none ∈ Ts) ∧
  (kd = 7 → Cond.methodLink mt.1.cls idx Lib.Math.max.name ∈ Ts ∧ Cond.static Lib.Math.max.name ∈ Ts ∧ Cond.initialized "java/lang/Math" ∈ Ts ∧ Cond.code Lib.Math.max.name Lib.Math.max.code 2 (some .int) ∈ Ts) ∧
  (kd = 8 → Cond.methodLink mt.1.cls idx Lib.Math.min.name ∈ Ts ∧ Cond.static Lib.Math.min.name ∈ Ts ∧ Cond.initialized "java/lang/Math" ∈ Ts ∧ Cond.code Lib.Math.min.name Lib.Math.min.code 2 (some .int) ∈ Ts) ∧
  (kd = 9 → ∃ mt' : xMt, xtM T mj = some mt' ∧ xOKm Ts mt' ∧ Cond.instanceMethod mt'.1 ∈ Ts ∧ Cond.selects mt'.1.cls mt'.1 mt'.1 ∈ Ts ∧ mt'.1.cls = "java/lang/String" ∧ Cond.methodLink mt.1.cls idx mt'.1 ∈ Ts)
def xOK (T : xT) (Ts Ns : List Cond) (AO : List String) : Prop := xOKi T ∧ xOKf T Ts Ns ∧ xOKl T Ts ∧ xOKc T Ts ∧ xOKa T Ts AO ∧ xOKp Ts ∧ xOKe T ∧ xOKj T Ts ∧ xOKv T Ts Ns ∧ xOKn Ns ∧ xOKt T Ts ∧ ∀ w ∈ Ts, (w.onTables && w.keeps) = true ∨ ∃ ty, w = .arrayClass ty
theorem xEnv.warm {T : xT} {B : xB} {D : va_G} {Ns : List Cond} {AO : List String} {s U : State} (hn : xOKn Ns) (hW : s.WarmedH U.vm) (h : xEnv T B D Ns AO s) : xEnv T B D Ns AO U := by
  refine ⟨va_K.moved hW.alike h.1, fun w hw => ?_, fun k hk => va_AO.moved hW.alike (h.2.2.1 k hk), fun mi mt hM idx k hk => ?_⟩
  · have h1 := h.2.1 w hw
    rcases hn w hw with ⟨a, i, b, n, d, k, rfl⟩ | ⟨a, i, x, k, rfl⟩
    · exact va_Nw.warmF hW h1
    · exact va_Nw.warmM hW h1
  · obtain ⟨tx, a, ha, hR⟩ := h.2.2.2 mi mt hM idx k hk
    exact ⟨tx, a, ha, vk_R.warm hW hR⟩
theorem xEnv.call {T : xT} {B : xB} {D : va_G} {Ns : List Cond} {AO : List String} {U V : State} (hn : xOKn Ns) (hv : U.vm = V.vm) (h : xEnv T B D Ns AO U) : xEnv T B D Ns AO V := by
  have ha : U.vm.Alike V.vm := by rw [hv]; exact Vm.Alike.refl V.vm
  refine ⟨va_K.moved ha h.1, fun w hw => ?_, fun k hk => va_AO.moved ha (h.2.2.1 k hk), fun mi mt hM idx k hk => ?_⟩
  · have h1 := h.2.1 w hw
    rcases hn w hw with ⟨a, i, b, n, d, k, rfl⟩ | ⟨a, i, x, k, rfl⟩
    · exact va_Nw.same rfl hv h1
    · exact va_Nw.same rfl hv h1
  · obtain ⟨tx, a, ha2, hR⟩ := h.2.2.2 mi mt hM idx k hk
    exact ⟨tx, a, ha2, vk_R.same hv.symm hR⟩
def xPc (T : xT) (B : xB) (D : va_G) (Ns : List Cond) (AO : List String) (as : List Value) (h : xH) : Array Value → State → Prop := va_Pc (as.map (xtr B)) (fun U => xP T B D h U.heap ∧ xEnv T B D Ns AO U ∧ (va_X B.2.1 (xtX T).length (fun j => (xtX T).getD j 0) U U.heap ∧ xTx T B U U.heap) ∧ B.2.1 < B.1)
def xQc (T : xT) (B : xB) (D : va_G) (z : xR) : Array Value → State → Outcome → State → Prop := fun _ st oc t => oc = .returned (z.1.map (xtr B)) ∧ xP T B D z.2 t.heap ∧ va_F (fun q => B.1 ≤ q) st t
theorem xPc_blind {T : xT} {B : xB} {D : va_G} {Ns : List Cond} {AO : List String} {as : List Value} {h : xH} (hn : xOKn Ns) : FrameBlind (xPc T B D Ns AO as h) := by
  intro a U g mk q
  obtain ⟨q0, q1, q2, q3, q4⟩ := q
  exact ⟨q0, q1, xEnv.call (U := U) (V := U.calling g mk a) hn rfl q2, ⟨va_X.moved (u := U) (U := U.calling g mk a) (Vm.Alike.refl U.vm) q3.1, xTx.moved (u := U) (U := U.calling g mk a) (Vm.Alike.refl U.vm) q3.2⟩, q4⟩
theorem xRun_mono {T : xT} {K : Nat → List Value → xH → xR → Prop} {mi : Nat} (hK : ∀ mj as h z, K mj as h z → h.1 ≤ z.2.1 ∧ h.2.1 ≤ z.2.2.1) : ∀ (n : Nat) (q : xCfg) (z : xR), xRun T K mi n q z → q.2.2.2.1 ≤ z.2.1 ∧ q.2.2.2.2.1 ≤ z.2.2.1 := by
  intro n
  induction n with
  | zero => exact fun q z h => h.elim
  | succ n ih =>
    intro q z h
    unfold xRun at h
    have hm : ∀ o, xStep T mi q = some o → xMon q.2.2.2 o := by
      intro o ho
      unfold xStep at ho
      split at ho
      · exact xDo_mono ho
      · cases ho
    revert h
    generalize ho : xStep T mi q = o at hm
    intro h
    rcases o with _ | q' | ⟨mj, as, q'⟩ | z'
    · exact h.elim
    · have h1 := hm _ rfl
      have h2 := ih q' z h
      exact ⟨Nat.le_trans h1.1 h2.1, Nat.le_trans h1.2 h2.2⟩
    · have h1 : q'.2.2.2 = q.2.2.2 := hm _ rfl
      obtain ⟨y, hy, h⟩ := h
      have h2 := ih _ z h
      have h3 := hK mj as _ y hy
      rw [h1] at h3
      exact ⟨Nat.le_trans h3.1 h2.1, Nat.le_trans h3.2 h2.2⟩
    · have h1 : z'.2 = q.2.2.2 := hm _ rfl
      have h2 : z' = z := h
      subst h2
      rw [h1]
      exact ⟨Nat.le_refl _, Nat.le_refl _⟩
theorem xCall_mono {T : xT} : ∀ (d mi : Nat) (as : List Value) (h : xH) (z : xR), xCall T d mi as h z → h.1 ≤ z.2.1 ∧ h.2.1 ≤ z.2.2.1 := by
  intro d
  induction d with
  | zero => exact fun _ _ _ _ h => h.elim
  | succ d ih =>
    intro mi as h z hc
    obtain ⟨mt, -, -, n, hr⟩ := hc
    exact xRun_mono ih n _ z hr
section XCALLS
variable {p : Program} {l : Launch} {e : Env} {R : Room} {s : State} {m : MethodId} {args : Array Value} {below : List Frame} {meth : Method} {c : Code} {Q : State → Prop}
variable {cc : ByteArray} {pc mi idx : Nat} {T : xT} {B : xB} {D : va_G} {mL : Nat} {h0 h : xH} {L st : List Value} {q' : xCfg} {Ts Ns : List Cond} {AO : List String} {mt : xMt}
/-- behind a call -/
theorem xg_back {st0 rest : List Value} {a : Array Value} {z : xR} (hg0 : h0.1 ≤ h.1 ∧ h0.2.1 ≤ h.2.1) (hmono : h.1 ≤ z.2.1 ∧ h.2.1 ≤ z.2.2.1) {H : Heap} {locs : List Loc} {ls : Array Slot} (hr : va_Run p l e R s m args below meth c H locs (h.1 - h0.1) (h.2.1 - h0.2.1) (z.2.1 - h.1) (z.2.2.1 - h.2.1) (F0 m pc ls st0) (rest.map (xtr B)) (xQc T B D z a) (fun q => B.1 ≤ q)) (hS : va_S (fun z => B.1 ≤ z) s.heap H locs) (hl : xLr B ls mL L) (kk : xG T B D mL h0 p l e R s m args below meth c Q (pc + 3, L, z.1.toList ++ rest, z.2)) : W p l e R s m args below meth c H locs (h.1 - h0.1) (h.2.1 - h0.2.1) Q (F0 m pc ls st0) := by
  intro T0 hT X
  obtain ⟨v, st₀, t, T', L1, h1, X', hL, e1, e2, ⟨hv, hP, hF1, hF2⟩, st⟩ := hr T0 hT X
  have hv : v = z.1.map (xtr B) := by cases hv; rfl
  subst hv
  have hS1 : va_S (fun z => B.1 ≤ z) s.heap T'.heap (locs ++ L1) := by
    rw [h1] at hF1 hF2
    refine ⟨Nat.le_trans hS.1 (by rw [e1]; exact hF1), fun q g1 g2 => ?_, fun q hq => ?_⟩
    · rw [e1, hF2 q (Nat.lt_of_lt_of_le g1 hS.1) g2]
      exact hS.2.1 q g1 g2
    · rcases List.mem_append.mp hq with g | g
      · exact hS.2.2 q g
      · exact hL q g
  have k2 := kk T'.heap (locs ++ L1) ls (by rw [e1]; exact hP) hS1 hl
  have c1 : z.2.1 - h0.1 = h.1 - h0.1 + (z.2.1 - h.1) := by omega
  have c2 : z.2.2.1 - h0.2.1 = h.2.1 - h0.2.1 + (z.2.2.1 - h.2.1) := by omega
  have c3 : (z.1.toList ++ rest).map (xtr B) = (z.1.map (xtr B)).toList ++ rest.map (xtr B) := by
    rw [List.map_append]
    cases z.1 <;> rfl
  dsimp only at k2
  rw [c1, c2, c3] at k2
  obtain ⟨t2, a1, b1⟩ := k2 T' rfl X'
  exact ⟨t2, st t2 a1, b1⟩
end XCALLS
