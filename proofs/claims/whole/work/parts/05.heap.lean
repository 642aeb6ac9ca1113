/-- what the tables say, by words of Ts (good ones) and Ns (of nests) -/
def xOKf (T : xT) (Ts Ns : List Cond) : Prop := ∀ (mi : Nat) (mt : xMt), xtM T mi = some mt → ∀ (idx ci k fl : Nat), ci < 12 → xtF T mi idx = some (ci, k, fl) → ∃ (C : String) (F : u_T) (N : Nat), (xtL T)[ci]? = some (C, F, N) ∧ k < N ∧ (fl = 0 ∨ fl = 1 ∨ fl = 3 → Cond.fieldLink mt.1.cls idx (F k).1 (F k).2.1 (F k).2.2.1 ∈ Ts) ∧ (fl = 2 ∨ fl = 4 → ∃ host, Cond.fieldLinkNest mt.1.cls idx (F k).1 (F k).2.1 (F k).2.2.1 host ∈ Ns) ∧ (fl = 0 ∨ fl = 2 → (F k).2.2.2 = false) ∧ (fl = 1 → (F k).2.2.2 = true ∧ mt.1.name = "<init>" ∧ (F k).1 = mt.1.cls) ∧ fl < 5
def xOKt (T : xT) (Ts : List Cond) : Prop := ∀ (mi : Nat) (mt : xMt), xtM T mi = some mt → ∀ (idx ci k fl : Nat), 20 ≤ ci → xtF T mi idx = some (ci, k, fl) → Cond.fieldLink mt.1.cls idx (xfs ci k).1 (xfs ci k).2.1 (xfs ci k).2.2 ∈ Ts
def xOKl (T : xT) (Ts : List Cond) : Prop := ∀ (ci : Nat) (C : String) (F : u_T) (N : Nat), (xtL T)[ci]? = some (C, F, N) → (∀ w ∈ u_ws C F N, w ∈ Ts) ∧ (∀ a, a < N → ∀ b, b < N → a ≠ b → (F a).2.1 ≠ (F b).2.1) ∧ (∀ k, k < N → parseFieldDescriptor (F k).2.2.1 = some ((xtD T ci).getD k .int)) ∧ (xtD T ci).length = N ∧ Cond.instantiable C N ∈ Ts ∧ Cond.initialized C ∈ Ts
def xOKc (T : xT) (Ts : List Cond) : Prop := ∀ (mi : Nat) (mt : xMt), xtM T mi = some mt → ∀ (idx ci : Nat), xtC T mi idx = some ci → ∃ (C : String) (F : u_T) (N : Nat), (xtL T)[ci]? = some (C, F, N) ∧ Cond.classLink mt.1.cls idx C ∈ Ts
def xOKa (T : xT) (Ts : List Cond) (AO : List String) : Prop := ∀ (mi : Nat) (mt : xMt), xtM T mi = some mt → ∀ (idx tg : Nat), xtA T mi idx = some tg → Cond.classLink mt.1.cls idx (xtE T tg) ∈ Ts ∧ xtE T tg ∈ AO
def xOKp (Ts : List Cond) : Prop := Cond.arrayClass .byte ∈ Ts ∧ Cond.arrayClass .int ∈ Ts ∧ Cond.arrayClass .boolean ∈ Ts
def xOKe (T : xT) : Prop := ∀ tg : Nat, 15 ≤ tg → tg < 19 → ∃ (F : u_T) (N : Nat), (xtL T)[[0, 2, 6, 9].getD (tg - 15) 99]? = some (xtE T tg, F, N)
def xOKj (T : xT) (Ts : List Cond) : Prop := ∀ (mi : Nat) (mt : xMt), xtM T mi = some mt → ∀ (idx : Nat) (v : Int64), xtJ T mi idx = some v → Cond.constantLong mt.1.cls idx v ∈ Ts
/-- a method that runs -/
def xCtx (T : xT) (B : xB) (D : va_G) (Ns : List Cond) (AO : List String) (Ts : List Cond) (p : Program) (s : State) (m : MethodId) (args : Array Value) (meth : Method) (c : Code) (y : MethodName) (cc : ByteArray) (mL : Nat) : Prop :=
  p.tables.exec = Jvm.exec ∧ c.code = cc ∧ c.maxLocals = mL ∧ s.vm.findClass y.cls = some m.cls ∧ (∀ w ∈ Ts, w.before args s = true) ∧ xEnv T B D Ns AO s ∧ (va_X B.2.1 (xtX T).length (fun j => (xtX T).getD j 0) s s.heap ∧ xTx T B s s.heap) ∧ B.2.1 < B.1 ∧ B.1 ≤ s.heap.size ∧ (y.name = "<init>" → meth.name = "<init>")
theorem xfit_ok {B : xB} {ty : FieldType} {v : Value} (h : xfit ty v = true) : narrow ty (xtr B v) = xtr B v ∧ fits ty (xtr B v) = true := by
  unfold xfit at h
  split at h
  · simp only [Bool.and_eq_true, decide_eq_true_eq] at h
    exact h
  · rename_i a
    cases ty <;> simp_all [fits, narrow, xtr]
  · cases ty <;> simp_all [fits, narrow, xtr]
  · cases h
theorem xe_obj {B : xB} {c : Nat × List Value} (h : c.1 < 12) : xe B c = .inr (c.1, c.2.map (xtr B)) := by
  unfold xe
  rw [if_pos h]
theorem xe_int {B : xB} {c : Nat × List Value} (h : 12 ≤ c.1) (h2 : c.1 < 15) : xe B c = .inl (B.2.2.1 c.1, c.2.length, .inl (fun j => xi (c.2.getD j .null))) := by
  unfold xe
  rw [if_neg (by omega), if_pos h2]
theorem xe_ref {B : xB} {c : Nat × List Value} (h : 15 ≤ c.1) : xe B c = .inl (B.2.2.1 c.1, c.2.length, .inr (.inr (.inr (.inr (fun j => xq B (c.2.getD j .null)))))) := by
  unfold xe
  rw [if_neg (by omega), if_neg (by omega)]
theorem xout_in {i : Int32} {n : Nat} (h : xout i n = false) : vp_in i n := by
  unfold xout at h
  unfold vp_in
  exact of_decide_eq_false h
section XHEAP
variable {p : Program} {l : Launch} {e : Env} {R : Room} {s : State} {m : MethodId} {args : Array Value} {below : List Frame} {meth : Method} {c : Code} {Q : State → Prop}
variable {cc : ByteArray} {pc mi idx : Nat} {T : xT} {B : xB} {D : va_G} {mL : Nat} {h0 h : xH} {L st : List Value} {q' : xCfg} {Ts Ns : List Cond} {AO : List String} {mt : xMt}
theorem xg_get (hC : xCtx T B D Ns AO Ts p s m args meth c mt.1 cc mL) (hM : xtM T mi = some mt) (hf : xOKf T Ts Ns) (hlk : xOKl T Ts) (htk : xOKt T Ts) (hd : decode cc pc = .ok (.getfield idx, 3)) (hs : xget T mi idx pc L st h = some (.inl q')) (kk : xG T B D mL h0 p l e R s m args below meth c Q q') : xG T B D mL h0 p l e R s m args below meth c Q (pc, L, st, h) := by
  obtain ⟨hx, hb, hml, hown, hts, hE, hX, hbl, hbs, hin⟩ := hC
  unfold xget at hs
  split at hs
  · rename_i a r ci k fl hF
    split at hs
    · rename_i hcnd
      obtain ⟨ha, hci, hci2⟩ := hcnd
      split at hs
      · rename_i v hv
        cases hs
        obtain ⟨C, F, N, g1, g2, g3, g4, -, -, g7⟩ := hf mi mt hM idx ci k fl hci2 hF
        obtain ⟨l1, l2, l3, l4, l5, l6⟩ := hlk ci C F N g1
        intro H locs ls hP hS hl
        have he : (xW B h)[a]? = some (B.1 + a, .inr (ci, (h.2.2 a).2.map (xtr B))) := by rw [xW_get ha, xe_obj (by rw [hci]; exact hci2), hci]
        have hv2 : ((h.2.2 a).2.map (xtr B))[k]? = some (xtr B v) := by rw [List.getElem?_map, hv]; rfl
        by_cases hfl : fl = 2 ∨ fl = 4
        · obtain ⟨host, g4⟩ := g4 hfl
          exact va_getN (C := C) (T := F) (N := N) (ref := (F k).1) hx hb hts l1 hown hE.1 hP.2 a he g1 k g2 (va_Nw.use rfl (hE.2.1 _ g4)) (fun _ h9 => h9) hv2 hd (kk H locs ls hP hS hl)
        · exact va_get (C := C) (T := F) (N := N) (ref := (F k).1) hx hb hts l1 hown hE.1 hP.2 a he g1 k g2 (hts _ (g3 (by omega))) (fun _ h9 => h9) hv2 hd (kk H locs ls hP hS hl)
      · cases hs
    · cases hs
  · rename_i j r ci k fl hF
    split at hs
    · rename_i hcnd
      obtain ⟨⟨rfl, hj⟩, hk2⟩ := hcnd
      cases hs
      have hlink := hts _ (htk mi mt hM idx 20 k fl (Nat.le_refl _) hF)
      obtain ⟨⟨adK, adV, h1, h2⟩, -, -⟩ := hX.2
      intro H locs ls hP hS hl
      have k2 := kk H locs ls hP hS hl
      have e1 : xtr B (.retAddr (j + 1)) = .ref (adK j) := by
        show va_rf (B.2.2.2 j) = _
        rw [(h2 j hj).1]
        rfl
      have e2 : xtr B (.retAddr (j + 101)) = .ref (adV j) := by
        show va_rf (B.2.2.2 (j + 100)) = _
        rw [Nat.add_comm, (h2 j hj).2]
        rfl
      show W p l e R s m args below meth c H locs _ _ Q (F0 m pc ls (xtr B (.retAddr (j + 1)) :: r.map (xtr B)))
      rw [e1]
      rcases (show k = 0 ∨ k = 1 by omega) with rfl | rfl
      · replace k2 : W p l e R s m args below meth c H locs _ _ Q (F0 m (pc + 3) ls (xtr B (.retAddr (j + 101)) :: r.map (xtr B))) := k2
        rw [e2] at k2
        exact vk_getf hx hb (h1.1 j hj).2.2.1 hS hown hlink (fun _ h9 => h9) hd k2
      · exact vk_getf hx hb (h1.1 j hj).2.1 hS hown hlink (fun _ h9 => h9) hd k2
    · cases hs
  · cases hs
theorem xg_gst (hC : xCtx T B D Ns AO Ts p s m args meth c mt.1 cc mL) (hM : xtM T mi = some mt) (htk : xOKt T Ts) (hd : decode cc pc = .ok (.getstatic idx, 3)) (hs : xgst T mi idx pc L st h = some (.inl q')) (kk : xG T B D mL h0 p l e R s m args below meth c Q q') : xG T B D mL h0 p l e R s m args below meth c Q (pc, L, st, h) := by
  obtain ⟨hx, hb, hml, hown, hts, hE, hX, hbl, hbs, hin⟩ := hC
  unfold xgst at hs
  split at hs
  · rename_i ci k fl hF
    split at hs
    · rename_i hcnd
      obtain ⟨rfl, hk2⟩ := hcnd
      cases hs
      have hlink := hts _ (htk mi mt hM idx 21 k fl (by omega) hF)
      obtain ⟨-, h3, h4⟩ := hX.2
      intro H locs ls hP hS hl
      have k2 := kk H locs ls hP hS hl
      rcases (show k = 0 ∨ k = 1 by omega) with rfl | rfl
      · exact va_gets hx hb h3 hS hown hlink (fun _ h9 => h9) hd k2
      · exact va_gets hx hb h4 hS hown hlink (fun _ h9 => h9) hd k2
    · cases hs
  · cases hs
theorem xg_ldc (hC : xCtx T B D Ns AO Ts p s m args meth c mt.1 cc mL) (hM : xtM T mi = some mt) {n : Nat} (hd : (n = 2 ∧ decode cc pc = .ok (.ldc idx, 2)) ∨ (n = 3 ∧ decode cc pc = .ok (.ldc_w idx, 3))) (hs : xldc T mi idx n pc L st h = some (.inl q')) (kk : xG T B D mL h0 p l e R s m args below meth c Q q') : xG T B D mL h0 p l e R s m args below meth c Q (pc, L, st, h) := by
  obtain ⟨hx, hb, hml, hown, hts, hE, hX, hbl, hbs, hin⟩ := hC
  unfold xldc at hs
  split at hs
  · rename_i k hk
    split at hs
    · cases hs
      obtain ⟨tx, a, ha, hR⟩ := hE.2.2.2 mi mt hM idx k hk
      intro H locs ls hP hS hl
      have k2 := kk H locs ls hP hS hl
      have e1 : xtr B (.retAddr (k + 1)) = .ref a := by
        show va_rf (B.2.2.2 k) = _
        rw [ha]
        rfl
      replace k2 : W p l e R s m args below meth c H locs _ _ Q (F0 m (pc + n) ls (xtr B (.retAddr (k + 1)) :: st.map (xtr B))) := k2
      rw [e1] at k2
      rcases hd with ⟨rfl, hd⟩ | ⟨rfl, hd⟩
      · exact va_ldcS hx hb hown hR hd k2
      · intro T0 hT X
        obtain ⟨t, a1, b1⟩ := k2 T0 hT X
        exact ⟨t, X.ldcStringW hx hown (text := tx) (a := a) hR.1 hR.2 (g := F0 m pc ls (st.map (xtr B))) rfl (by rw [hb]; exact hd) t a1, b1⟩
    · cases hs
  · cases hs
theorem xP_set {a : Nat} {H H1 : Heap} {cl : Nat × List Value} (ha : a < h.1) (hP : xP T B D h H) (hz : H1.size = H.size) (hW : va_P D (xtL T) ((xW B h).set a (B.1 + a, xe B cl)) H1) : xP T B D (xset h a cl) H1 := by
  refine ⟨hz.trans hP.1, ?_⟩
  rw [← xW_set ha]
  exact hW
theorem xP_new {H H1 : Heap} {cl : Nat × List Value} (hP : xP T B D h H) (hz : H1.size = H.size + 1) (hW : va_P D (xtL T) (xW B h ++ [(H.size, xe B cl)]) H1) : xP T B D (xnew h cl) H1 := by
  refine ⟨by rw [hz, hP.1]; rfl, ?_⟩
  rw [← xW_new, ← hP.1]
  exact hW
theorem xg_put (hC : xCtx T B D Ns AO Ts p s m args meth c mt.1 cc mL) (hM : xtM T mi = some mt) (hf : xOKf T Ts Ns) (hlk : xOKl T Ts) (hd : decode cc pc = .ok (.putfield idx, 3)) (hs : xput T mi idx pc L st h = some (.inl q')) (kk : xG T B D mL h0 p l e R s m args below meth c Q q') : xG T B D mL h0 p l e R s m args below meth c Q (pc, L, st, h) := by
  obtain ⟨hx, hb, hml, hown, hts, hE, hX, hbl, hbs, hin⟩ := hC
  unfold xput at hs
  split at hs
  · rename_i v a r ci k fl hF
    split at hs
    · rename_i hcnd
      obtain ⟨⟨ha, hci, hci2⟩, ⟨hkl, hfit⟩, hfl⟩ := hcnd
      cases hs
      obtain ⟨C, F, N, g1, g2, g3, g4, g5, g6, g7⟩ := hf mi mt hM idx ci k fl hci2 hF
      obtain ⟨l1, l2, l3, l4, l5, l6⟩ := hlk ci C F N g1
      obtain ⟨f1, f2⟩ := xfit_ok (B := B) hfit
      intro H locs ls hP hS hl
      have he : (xW B h)[a]? = some (B.1 + a, .inr (ci, (h.2.2 a).2.map (xtr B))) := by rw [xW_get ha, xe_obj (by rw [hci]; exact hci2), hci]
      have hkl2 : k < ((h.2.2 a).2.map (xtr B)).length := by simpa using hkl
      have fin : ∀ (H1 : Heap) (locs1 : List Loc), H1.size = H.size → va_P D (xtL T) ((xW B h).set a (B.1 + a, .inr (ci, ((h.2.2 a).2.map (xtr B)).set k (xtr B v)))) H1 → va_S (fun z => B.1 ≤ z) s.heap H1 locs1 → W p l e R s m args below meth c H1 locs1 (h.1 - h0.1) (h.2.1 - h0.2.1) Q (F0 m (pc + 3) ls (r.map (xtr B))) := by
        intro H1 locs1 hz hP1 hS1
        refine kk H1 locs1 ls (xP_set ha hP hz ?_) hS1 hl
        rw [xe_obj (show (ci, ((h.2.2 a).2.set k v)).1 < 12 from hci2), List.map_set]
        exact hP1
      rcases (show fl = 0 ∨ fl = 1 ∨ fl = 2 by omega) with rfl | rfl | rfl
      · exact xs_put (C := C) (T := F) (N := N) hx hb hts l1 (fun k => (xtD T ci).getD k .int) l3 l2 hown hE.1 hP.2 (xW_D B h) hS a he g1 k g2 (hts _ (g3 (Or.inl rfl))) (g5 (Or.inl rfl)) f1 f2 hkl2 hd fin
      · obtain ⟨g61, g62, g63⟩ := g6 rfl
        exact xs_putF (C := C) (T := F) (N := N) hx hb hts l1 (fun k => (xtD T ci).getD k .int) l3 l2 hown hE.1 hP.2 (xW_D B h) hS a he g1 k g2 (hts _ (g3 (Or.inr (Or.inl rfl)))) g61 (hin g62) g63 f1 f2 hkl2 hd fin
      · obtain ⟨host, g4⟩ := g4 (Or.inl rfl)
        exact xs_putN (C := C) (T := F) (N := N) hx hb hts l1 (fun k => (xtD T ci).getD k .int) l3 l2 hown hE.1 hP.2 (xW_D B h) hS a he g1 k g2 (va_Nw.use rfl (hE.2.1 _ g4)) (g5 (Or.inr rfl)) f1 f2 hkl2 hd fin
    · cases hs
  · cases hs
theorem xg_mk (hC : xCtx T B D Ns AO Ts p s m args meth c mt.1 cc mL) (hM : xtM T mi = some mt) (hck : xOKc T Ts) (hlk : xOKl T Ts) (hg0 : h0.1 ≤ h.1 ∧ h0.2.1 ≤ h.2.1) (hd : decode cc pc = .ok (.new idx, 3)) (hs : xmk T mi idx pc L st h = some (.inl q')) (hr : q'.2.2.2.1 - h0.1 ≤ R.cells ∧ q'.2.2.2.2.1 - h0.2.1 ≤ R.slots) (kk : xG T B D mL h0 p l e R s m args below meth c Q q') : xG T B D mL h0 p l e R s m args below meth c Q (pc, L, st, h) := by
  obtain ⟨hx, hb, hml, hown, hts, hE, hX, hbl, hbs, hin⟩ := hC
  unfold xmk at hs
  split at hs
  · rename_i ci hci
    split at hs
    · rename_i hci2
      cases hs
      obtain ⟨C, F, N, g1, g2⟩ := hck mi mt hM idx ci hci
      obtain ⟨l1, l2, l3, l4, l5, l6⟩ := hlk ci C F N g1
      intro H locs ls hP hS hl
      have hr1 : h.1 + 1 - h0.1 ≤ R.cells := hr.1
      have hr2 : h.2.1 + ((xtD T ci).map defaultValue).length - h0.2.1 ≤ R.slots := hr.2
      rw [List.length_map, l4] at hr2
      refine xs_new (C := C) (T := F) (N := N) (ci := ci) (A := fun z => B.1 ≤ z) (fs := ((xtD T ci).map defaultValue).map (xtr B)) hx hb hts l1 (fun k => (xtD T ci).getD k .int) l3 hown (hts _ g2) (hts _ l5) (hts _ l6) hE.1 hP.2 hS (fun q hq => Nat.le_trans hbs hq) g1 ?_ (by dsimp only; omega) (by dsimp only; omega) hd ?_
      · intro j hj
        unfold vp_V
        have hj2 : j < (xtD T ci).length := by omega
        simp only [List.getD_eq_getElem?_getD, List.getElem?_map, List.getElem?_eq_getElem hj2, Option.map_some, Option.getD_some]
        cases (xtD T ci)[j] <;> rfl
      · intro H1 hz hP1 hS1
        have k2 := kk H1 locs ls (xP_new hP hz (by rw [xe_obj (show (ci, (xtD T ci).map defaultValue).1 < 12 from hci2)]; exact hP1)) hS1 hl
        have e1 : (xnew h (ci, (xtD T ci).map defaultValue)).1 - h0.1 = h.1 - h0.1 + 1 := by show h.1 + 1 - h0.1 = _; omega
        have e2 : (xnew h (ci, (xtD T ci).map defaultValue)).2.1 - h0.2.1 = h.2.1 - h0.2.1 + N := by show h.2.1 + ((xtD T ci).map defaultValue).length - h0.2.1 = _; rw [List.length_map, l4]; omega
        dsimp only at k2
        rw [e1, e2] at k2
        rw [hP.1]
        exact k2
    · cases hs
  · cases hs
end XHEAP
