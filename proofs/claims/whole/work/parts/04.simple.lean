def xG (T : xT) (B : xB) (D : va_G) (mL : Nat) (h0 : xH) (p : Program) (l : Launch) (e : Env) (R : Room) (s : State) (m : MethodId) (args : Array Value) (below : List Frame) (meth : Method) (c : Code) (Q : State → Prop) (q : xCfg) : Prop :=
  ∀ (H : Heap) (locs : List Loc) (ls : Array Slot), xP T B D q.2.2.2 H → va_S (fun z => B.1 ≤ z) s.heap H locs → xLr B ls mL q.2.1 → W p l e R s m args below meth c H locs (q.2.2.2.1 - h0.1) (q.2.2.2.2.1 - h0.2.1) Q (F0 m q.1 ls (q.2.2.1.map (xtr B)))
section XSIMPLE
variable {p : Program} {l : Launch} {e : Env} {R : Room} {s : State} {m : MethodId} {args : Array Value} {below : List Frame} {meth : Method} {c : Code} {Q : State → Prop}
variable {cc : ByteArray} {pc : Nat} {T : xT} {B : xB} {D : va_G} {mL : Nat} {h0 h : xH} {L st : List Value} {q' : xCfg}
theorem xgo_eq {t : Nat} {off : Int} (h : xgo pc off = some t) : (pc : Int) + off = (t : Int) := by
  unfold xgo at h
  split at h
  · cases h
    rename_i h1
    exact (Int.toNat_of_nonneg h1).symm
  · cases h
theorem xg_load (hx : p.tables.exec = Jvm.exec) (hb : c.code = cc) {i n : Nat} (hd : (n = 2 ∧ decode cc pc = .ok (.iload i, 2)) ∨ (n = 1 ∧ ∃ k : Fin 4, (k : Nat) = i ∧ decode cc pc = .ok (.iload_n k, 1))) (hs : xload 0 i n pc L st h = some (.inl q')) (k : xG T B D mL h0 p l e R s m args below meth c Q q') : xG T B D mL h0 p l e R s m args below meth c Q (pc, L, st, h) := by
  unfold xload at hs
  split at hs
  · rename_i v hv
    split at hs
    · cases hs
      rename_i hk
      intro H locs ls hP hS hl
      cases v with
      | int x =>
        have h1 := hl.at hv (by simp)
        rcases hd with ⟨rfl, hd⟩ | ⟨rfl, k4, rfl, hd⟩
        · exact lv_iload hx hb hd h1 (k H locs ls hP hS hl)
        · exact lv_iload_n hx hb hd rfl h1 (k H locs ls hP hS hl)
      | _ => simp [xkind] at hk
    · cases hs
  · cases hs
theorem xg_loadL (hx : p.tables.exec = Jvm.exec) (hb : c.code = cc) {i : Nat} (hd : ∃ k : Fin 4, (k : Nat) = i ∧ decode cc pc = .ok (.lload_n k, 1)) (hs : xload 2 i 1 pc L st h = some (.inl q')) (k : xG T B D mL h0 p l e R s m args below meth c Q q') : xG T B D mL h0 p l e R s m args below meth c Q (pc, L, st, h) := by
  unfold xload at hs
  split at hs
  · rename_i v hv
    split at hs
    · cases hs
      rename_i hk
      intro H locs ls hP hS hl
      cases v with
      | long x =>
        have h1 := hl.at hv (by simp)
        obtain ⟨k4, rfl, hd⟩ := hd
        exact lv_lload_n hx hb hd rfl h1 (k H locs ls hP hS hl)
      | _ => simp [xkind] at hk
    · cases hs
  · cases hs
theorem xtr_ref (v : Value) (h : xkind 1 v = true) : v ≠ .float 0 ∧ (xtr B v = .null ∨ ∃ a, xtr B v = .ref a) := by
  cases v with
  | ref a => exact ⟨by simp, Or.inr ⟨_, rfl⟩⟩
  | null => exact ⟨by simp, Or.inl rfl⟩
  | retAddr k =>
    refine ⟨by simp, ?_⟩
    cases k with
    | zero => exact Or.inr ⟨_, rfl⟩
    | succ k =>
      show va_rf (B.2.2.2 k) = .null ∨ ∃ a, va_rf (B.2.2.2 k) = .ref a
      cases B.2.2.2 k with
      | none => exact Or.inl rfl
      | some a => exact Or.inr ⟨a, rfl⟩
  | _ => simp [xkind] at h
theorem xg_loadA (hx : p.tables.exec = Jvm.exec) (hb : c.code = cc) {i n : Nat} (hd : (n = 2 ∧ decode cc pc = .ok (.aload i, 2)) ∨ (n = 1 ∧ ∃ k : Fin 4, (k : Nat) = i ∧ decode cc pc = .ok (.aload_n k, 1))) (hs : xload 1 i n pc L st h = some (.inl q')) (k : xG T B D mL h0 p l e R s m args below meth c Q q') : xG T B D mL h0 p l e R s m args below meth c Q (pc, L, st, h) := by
  unfold xload at hs
  split at hs
  · rename_i v hv
    split at hs
    · cases hs
      rename_i hk
      intro H locs ls hP hS hl
      obtain ⟨hne, h2⟩ := xtr_ref (B := B) v hk
      have h1 := hl.at hv hne
      have k2 := k H locs ls hP hS hl
      simp only [List.map_cons] at k2
      rcases h2 with h2 | ⟨a, h2⟩ <;> rw [h2] at h1 k2
      · rcases hd with ⟨rfl, hd⟩ | ⟨rfl, k4, rfl, hd⟩
        · exact lv_aloadN hx hb hd h1 k2
        · exact lv_aload_nN hx hb hd rfl h1 k2
      · rcases hd with ⟨rfl, hd⟩ | ⟨rfl, k4, rfl, hd⟩
        · exact lv_aload hx hb hd h1 k2
        · exact lv_aload_n hx hb hd rfl h1 k2
    · cases hs
  · cases hs
theorem xg_store (hx : p.tables.exec = Jvm.exec) (hb : c.code = cc) {i n : Nat} (hd : (n = 2 ∧ decode cc pc = .ok (.istore i, 2)) ∨ (n = 1 ∧ ∃ k : Fin 4, (k : Nat) = i ∧ decode cc pc = .ok (.istore_n k, 1))) (hs : xstore 0 i n pc L st h = some (.inl q')) (k : xG T B D mL h0 p l e R s m args below meth c Q q') : xG T B D mL h0 p l e R s m args below meth c Q (pc, L, st, h) := by
  unfold xstore at hs
  split at hs
  · rename_i v r
    split at hs
    · cases hs
      rename_i hk
      obtain ⟨hk, ho⟩ := hk
      intro H locs ls hP hS hl
      have hi : i < mL := by
        have h1 : i < L.length := by
          unfold xokst at ho
          simp only [Bool.and_eq_true, decide_eq_true_eq] at ho
          exact ho.1
        rw [← hl.1]; exact h1
      cases v with
      | int x =>
        rcases hd with ⟨rfl, hd⟩ | ⟨rfl, k4, rfl, hd⟩
        · exact lv_istore hx hb hd hl.2 hi rfl (fun ls' hl' => k H locs ls' hP hS (xLr.st hl.1 ho hl'))
        · exact lv_istore_n hx hb hd rfl hl.2 hi rfl (fun ls' hl' => k H locs ls' hP hS (xLr.st hl.1 ho hl'))
      | _ => simp [xkind] at hk
    · cases hs
  · cases hs
theorem xg_storeA (hx : p.tables.exec = Jvm.exec) (hb : c.code = cc) {i n : Nat} (hd : (n = 2 ∧ decode cc pc = .ok (.astore i, 2)) ∨ (n = 1 ∧ ∃ k : Fin 4, (k : Nat) = i ∧ decode cc pc = .ok (.astore_n k, 1))) (hs : xstore 1 i n pc L st h = some (.inl q')) (k : xG T B D mL h0 p l e R s m args below meth c Q q') : xG T B D mL h0 p l e R s m args below meth c Q (pc, L, st, h) := by
  unfold xstore at hs
  split at hs
  · rename_i v r
    split at hs
    · cases hs
      rename_i hk
      obtain ⟨hk, ho⟩ := hk
      intro H locs ls hP hS hl
      have hi : i < mL := by
        have h1 : i < L.length := by
          unfold xokst at ho
          simp only [Bool.and_eq_true, decide_eq_true_eq] at ho
          exact ho.1
        rw [← hl.1]; exact h1
      obtain ⟨hne, h2⟩ := xtr_ref (B := B) v hk
      show W p l e R s m args below meth c H locs _ _ Q (F0 m pc ls (xtr B v :: r.map (xtr B)))
      have k2 : ∀ ls' : Array Slot, lv_has ls' mL ((i, xtr B v) :: (xpl B L).filter (fun q => !(q.1 == i) && !(q.1 + 1 == i && q.2.category == 2))) → W p l e R s m args below meth c H locs (h.1 - h0.1) (h.2.1 - h0.2.1) Q (F0 m (pc + n) ls' (r.map (xtr B))) := fun ls' hl' => k H locs ls' hP hS (xLr.st hl.1 ho hl')
      rcases h2 with h2 | ⟨a, h2⟩ <;> rw [h2] at k2 ⊢
      · rcases hd with ⟨rfl, hd⟩ | ⟨rfl, k4, rfl, hd⟩
        · exact lv_astoreN hx hb hd hl.2 hi rfl k2
        · exact lv_astore_nN hx hb hd rfl hl.2 hi rfl k2
      · rcases hd with ⟨rfl, hd⟩ | ⟨rfl, k4, rfl, hd⟩
        · exact lv_astore hx hb hd hl.2 hi rfl k2
        · exact lv_astore_n hx hb hd rfl hl.2 hi rfl k2
    · cases hs
  · cases hs
theorem xg_inc (hx : p.tables.exec = Jvm.exec) (hb : c.code = cc) {i : Nat} {n : Int} (hd : decode cc pc = .ok (.iinc i n, 3)) (hs : xinc i n pc L st h = some (.inl q')) (k : xG T B D mL h0 p l e R s m args below meth c Q q') : xG T B D mL h0 p l e R s m args below meth c Q (pc, L, st, h) := by
  unfold xinc at hs
  split at hs
  · rename_i x hv
    split at hs
    · cases hs
      rename_i ho
      intro H locs ls hP hS hl
      have hi : i < mL := by
        have h1 : i < L.length := by
          unfold xokst at ho
          simp only [Bool.and_eq_true, decide_eq_true_eq] at ho
          exact ho.1
        rw [← hl.1]; exact h1
      obtain ⟨j, hj⟩ := List.getElem?_of_mem (xpl_mem.mpr ⟨_, hv, by simp, rfl⟩ : (i, xtr B (.int x)) ∈ xpl B L)
      exact lv_iinc (k := j) hx hb hd hl.2 hj rfl hi rfl (fun ls' hl' => k H locs ls' hP hS (xLr.st hl.1 ho hl'))
    · cases hs
  · cases hs
theorem xg_to {off : Int} (hs : xto pc off L st h = some (.inl q')) (hr : ∀ (t : Nat), (pc : Int) + off = (t : Int) → (xG T B D mL h0 p l e R s m args below meth c Q (t, L, st, h) → xG T B D mL h0 p l e R s m args below meth c Q (pc, L, st, h))) (k : xG T B D mL h0 p l e R s m args below meth c Q q') : xG T B D mL h0 p l e R s m args below meth c Q (pc, L, st, h) := by
  unfold xto at hs
  split at hs
  · rename_i t ht
    cases hs
    exact hr t (xgo_eq ht) k
  · cases hs
theorem xg_goto (hx : p.tables.exec = Jvm.exec) (hb : c.code = cc) {off : Int} (hd : decode cc pc = .ok (.goto off, 3)) (hs : xto pc off L st h = some (.inl q')) (k : xG T B D mL h0 p l e R s m args below meth c Q q') : xG T B D mL h0 p l e R s m args below meth c Q (pc, L, st, h) :=
  xg_to hs (fun t ht k2 H locs ls hP hS hl => lv_goto hx hb hd ht (k2 H locs ls hP hS hl)) k
/-- a branch: the two ways -/
theorem xg_br {b : Bool} {off : Int} {r : List Value} (hs : xbr b pc off L r h = some (.inl q')) (k : xG T B D mL h0 p l e R s m args below meth c Q q') : ∃ t : Nat, (pc : Int) + off = (t : Int) ∧ (b = true → xG T B D mL h0 p l e R s m args below meth c Q (t, L, r, h)) ∧ (b = false → xG T B D mL h0 p l e R s m args below meth c Q (pc + 3, L, r, h)) := by
  unfold xbr at hs
  split at hs
  · rename_i t ht
    refine ⟨t, xgo_eq ht, fun hb => ?_, fun hb => ?_⟩
    · rw [if_pos hb] at hs
      cases hs
      exact k
    · rw [if_neg (by rw [hb]; decide)] at hs
      cases hs
      exact k
  · cases hs
theorem xg_icmp (hx : p.tables.exec = Jvm.exec) (hb : c.code = cc) {kd : Jvm.ClassFile.Cond} {off : Int} (hd : decode cc pc = .ok (.if_icmp kd off, 3)) (hs : xicmp kd pc off L st h = some (.inl q')) (k : xG T B D mL h0 p l e R s m args below meth c Q q') : xG T B D mL h0 p l e R s m args below meth c Q (pc, L, st, h) := by
  unfold xicmp at hs
  split at hs
  · rename_i y x r
    obtain ⟨t, ht, k1, k2⟩ := xg_br hs k
    intro H locs ls hP hS hl
    cases kd <;> simp only [xcond, decide_eq_true_eq, decide_eq_false_iff_not] at k1 k2
    · exact lv_icmp_eq hx hb hd ht (fun hn => k1 hn H locs ls hP hS hl) (fun hn => k2 hn H locs ls hP hS hl)
    · exact lv_icmp_ne hx hb hd ht (fun hn => k1 hn H locs ls hP hS hl) (fun hn => k2 (fun h9 => h9 (by simpa using hn)) H locs ls hP hS hl)
    · exact lv_icmp_lt hx hb hd ht (fun hn => k1 hn H locs ls hP hS hl) (fun hn => k2 hn H locs ls hP hS hl)
    · exact lv_icmp_ge hx hb hd ht (fun hn => k1 hn H locs ls hP hS hl) (fun hn => k2 hn H locs ls hP hS hl)
    · exact lv_icmp_gt hx hb hd ht (fun hn => k1 hn H locs ls hP hS hl) (fun hn => k2 hn H locs ls hP hS hl)
    · exact lv_icmp_le hx hb hd ht (fun hn => k1 hn H locs ls hP hS hl) (fun hn => k2 hn H locs ls hP hS hl)
  · cases hs
theorem xg_if (hx : p.tables.exec = Jvm.exec) (hb : c.code = cc) {kd : Jvm.ClassFile.Cond} {off : Int} (hd : decode cc pc = .ok (.ifCond kd off, 3)) (hs : xif kd pc off L st h = some (.inl q')) (k : xG T B D mL h0 p l e R s m args below meth c Q q') : xG T B D mL h0 p l e R s m args below meth c Q (pc, L, st, h) := by
  unfold xif at hs
  split at hs
  · rename_i x r
    obtain ⟨t, ht, k1, k2⟩ := xg_br hs k
    intro H locs ls hP hS hl
    cases kd <;> simp only [xcond, decide_eq_true_eq, decide_eq_false_iff_not] at k1 k2
    · exact lv_if_eq hx hb hd ht (fun hn => k1 hn H locs ls hP hS hl) (fun hn => k2 hn H locs ls hP hS hl)
    · exact lv_if_ne hx hb hd ht (fun hn => k1 hn H locs ls hP hS hl) (fun hn => k2 (fun h9 => h9 (by simpa using hn)) H locs ls hP hS hl)
    · exact lv_if_lt hx hb hd ht (fun hn => k1 hn H locs ls hP hS hl) (fun hn => k2 hn H locs ls hP hS hl)
    · exact lv_if_ge hx hb hd ht (fun hn => k1 hn H locs ls hP hS hl) (fun hn => k2 hn H locs ls hP hS hl)
    · exact lv_if_gt hx hb hd ht (fun hn => k1 hn H locs ls hP hS hl) (fun hn => k2 hn H locs ls hP hS hl)
    · exact lv_if_le hx hb hd ht (fun hn => k1 hn H locs ls hP hS hl) (fun hn => k2 hn H locs ls hP hS hl)
  · cases hs
def xrf (v : Value) : Option Nat := match v with
  | .ref a => some a
  | _ => none
theorem xtr_rf (v : Value) (h : xkind 3 v = true) : xtr B v = va_rf ((xrf v).map (fun a => B.1 + a)) := by
  cases v with
  | ref a => rfl
  | null => rfl
  | _ => simp [xkind] at h
theorem xrf_eq {v w : Value} (h : xkind 3 v = true) (h2 : xkind 3 w = true) : ((xrf v).map (fun a => B.1 + a) = (xrf w).map (fun a => B.1 + a)) ↔ v = w := by
  cases v <;> cases w <;> simp_all [xkind, xrf]
theorem xg_acmp (hx : p.tables.exec = Jvm.exec) (hb : c.code = cc) {off : Int} {ne : Bool} (hd : decode cc pc = .ok (.if_acmp (if ne = true then .ne else .eq) off, 3)) (hs : xacmp ne pc off L st h = some (.inl q')) (k : xG T B D mL h0 p l e R s m args below meth c Q q') : xG T B D mL h0 p l e R s m args below meth c Q (pc, L, st, h) := by
  unfold xacmp at hs
  split at hs
  · rename_i y x r
    split at hs
    · rename_i hk
      obtain ⟨t, ht, k1, k2⟩ := xg_br hs k
      intro H locs ls hP hS hl
      show W p l e R s m args below meth c H locs _ _ Q (F0 m pc ls (xtr B y :: xtr B x :: r.map (xtr B)))
      rw [xtr_rf x hk.1, xtr_rf y hk.2]
      cases ne
      · simp only [Bool.false_eq_true, if_false, decide_eq_true_eq, decide_eq_false_iff_not] at k1 k2 hd
        exact lv_acmp_eq hx hb hd ht (fun hn => k1 ((xrf_eq hk.1 hk.2).mp hn) H locs ls hP hS hl) (fun hn => k2 (fun h9 => hn ((xrf_eq hk.1 hk.2).mpr h9)) H locs ls hP hS hl)
      · simp only [if_true, ne_eq, decide_eq_true_eq, decide_eq_false_iff_not, Decidable.not_not] at k1 k2 hd
        exact lv_acmp_ne hx hb hd ht (fun hn => k1 (fun h9 => hn ((xrf_eq hk.1 hk.2).mpr h9)) H locs ls hP hS hl) (fun hn => k2 ((xrf_eq hk.1 hk.2).mp hn) H locs ls hP hS hl)
    · cases hs
  · cases hs
theorem xg_nul (hx : p.tables.exec = Jvm.exec) (hb : c.code = cc) {off : Int} (hd : decode cc pc = .ok (.ifnull off, 3)) (hs : xnul false pc off L st h = some (.inl q')) (k : xG T B D mL h0 p l e R s m args below meth c Q q') : xG T B D mL h0 p l e R s m args below meth c Q (pc, L, st, h) := by
  unfold xnul at hs
  split at hs
  · obtain ⟨t, ht, k1, k2⟩ := xg_br hs k
    intro H locs ls hP hS hl
    exact lv_ifnullN hx hb hd ht (k1 rfl H locs ls hP hS hl)
  · obtain ⟨t, ht, k1, k2⟩ := xg_br hs k
    intro H locs ls hP hS hl
    exact lv_ifnull hx hb hd (k2 rfl H locs ls hP hS hl)
  · cases hs
theorem xg_nnul (hx : p.tables.exec = Jvm.exec) (hb : c.code = cc) {off : Int} (hd : decode cc pc = .ok (.ifnonnull off, 3)) (hs : xnul true pc off L st h = some (.inl q')) (k : xG T B D mL h0 p l e R s m args below meth c Q q') : xG T B D mL h0 p l e R s m args below meth c Q (pc, L, st, h) := by
  unfold xnul at hs
  split at hs
  · obtain ⟨t, ht, k1, k2⟩ := xg_br hs k
    intro H locs ls hP hS hl
    exact lv_ifnonnullN hx hb hd (k2 rfl H locs ls hP hS hl)
  · obtain ⟨t, ht, k1, k2⟩ := xg_br hs k
    intro H locs ls hP hS hl
    exact lv_ifnonnull hx hb hd ht (k1 rfl H locs ls hP hS hl)
  · cases hs
theorem xg_tsw (hx : p.tables.exec = Jvm.exec) (hb : c.code = cc) {d lo hi : Int} {os : Array Int} {len : Nat} (hd : decode cc pc = .ok (.tableswitch d lo hi os, len)) (hs : xtsw d lo hi os pc L st h = some (.inl q')) (k : xG T B D mL h0 p l e R s m args below meth c Q q') : xG T B D mL h0 p l e R s m args below meth c Q (pc, L, st, h) := by
  unfold xtsw at hs
  split at hs
  · rename_i x r
    split at hs
    · rename_i ho
      unfold xto at hs
      split at hs
      · rename_i t ht
        cases hs
        intro H locs ls hP hS hl
        exact lv_tableOut hx hb hd ho (xgo_eq ht) (k H locs ls hP hS hl)
      · cases hs
    · rename_i ho
      split at hs
      · rename_i o ho2
        unfold xto at hs
        split at hs
        · rename_i t ht
          cases hs
          intro H locs ls hP hS hl
          exact lv_tableIn hx hb hd (fun h9 => ho (Or.inl h9)) (fun h9 => ho (Or.inr h9)) ho2 (xgo_eq ht) (k H locs ls hP hS hl)
        · cases hs
      · cases hs
  · cases hs
theorem xg_lsw (hx : p.tables.exec = Jvm.exec) (hb : c.code = cc) {d : Int} {ps : Array (Int × Int)} {len : Nat} (hd : decode cc pc = .ok (.lookupswitch d ps, len)) (hs : xlsw d ps pc L st h = some (.inl q')) (k : xG T B D mL h0 p l e R s m args below meth c Q q') : xG T B D mL h0 p l e R s m args below meth c Q (pc, L, st, h) := by
  unfold xlsw at hs
  split at hs
  · rename_i x r
    split at hs
    · rename_i ho
      unfold xto at hs
      split at hs
      · rename_i t ht
        cases hs
        intro H locs ls hP hS hl
        exact lv_lookup hx hb hd ho rfl (xgo_eq ht) (k H locs ls hP hS hl)
      · cases hs
    · cases hs
  · cases hs
theorem xg_div (hx : p.tables.exec = Jvm.exec) (hb : c.code = cc) {b : Bool} (hd : decode cc pc = .ok (if b = true then .idiv else .irem, 1)) (hs : xdiv b pc L st h = some (.inl q')) (k : xG T B D mL h0 p l e R s m args below meth c Q q') : xG T B D mL h0 p l e R s m args below meth c Q (pc, L, st, h) := by
  unfold xdiv at hs
  split at hs
  · rename_i y x r
    split at hs
    · cases hs
    · rename_i hy
      cases hs
      intro H locs ls hP hS hl
      cases b
      · exact lv_irem hx hb hd hy (k H locs ls hP hS hl)
      · exact lv_idiv hx hb hd hy (k H locs ls hP hS hl)
  · cases hs
theorem xg_dup (hx : p.tables.exec = Jvm.exec) (hb : c.code = cc) (hd : decode cc pc = .ok (.dup, 1)) (hs : xdup pc L st h = some (.inl q')) (k : xG T B D mL h0 p l e R s m args below meth c Q q') : xG T B D mL h0 p l e R s m args below meth c Q (pc, L, st, h) := by
  unfold xdup at hs
  split at hs
  · split at hs
    · rename_i hv
      cases hs
      intro H locs ls hP hS hl
      exact lv_dup hx hb hd (by rw [xtr_cat]; exact hv) (k H locs ls hP hS hl)
    · cases hs
  · cases hs
theorem xg_dup2 (hx : p.tables.exec = Jvm.exec) (hb : c.code = cc) (hd : decode cc pc = .ok (.dup2, 1)) (hs : xdup2 pc L st h = some (.inl q')) (k : xG T B D mL h0 p l e R s m args below meth c Q q') : xG T B D mL h0 p l e R s m args below meth c Q (pc, L, st, h) := by
  unfold xdup2 at hs
  split at hs
  · split at hs
    · rename_i hv
      cases hs
      intro H locs ls hP hS hl
      exact lv_dup2_11 hx hb hd (by rw [xtr_cat]; exact hv.1) (by rw [xtr_cat]; exact hv.2) (k H locs ls hP hS hl)
    · cases hs
  · cases hs
theorem xg_pop (hx : p.tables.exec = Jvm.exec) (hb : c.code = cc) (hd : decode cc pc = .ok (.pop, 1)) (hs : xpop pc L st h = some (.inl q')) (k : xG T B D mL h0 p l e R s m args below meth c Q q') : xG T B D mL h0 p l e R s m args below meth c Q (pc, L, st, h) := by
  unfold xpop at hs
  split at hs
  · split at hs
    · rename_i hv
      cases hs
      intro H locs ls hP hS hl
      exact lv_pop hx hb hd (by rw [xtr_cat]; exact hv) (k H locs ls hP hS hl)
    · cases hs
  · cases hs
end XSIMPLE
