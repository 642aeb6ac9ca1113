theorem xi_set {vs : List Value} {i : Nat} (hi : i < vs.length) (x : Int32) : (fun j => xi ((vs.set i (.int x)).getD j .null)) = upd (fun j => xi (vs.getD j .null)) i x := by
  funext j
  unfold upd
  simp only [List.getD_eq_getElem?_getD, List.getElem?_set]
  by_cases hj : i = j
  · subst hj
    simp [hi, xi]
  · simp [hj, Ne.symm hj]
theorem xq_set {B : xB} {vs : List Value} {i : Nat} (hi : i < vs.length) (v : Value) : (fun j => xq B ((vs.set i v).getD j .null)) = va_up (fun j => xq B (vs.getD j .null)) i (xq B v) := by
  funext j
  unfold va_up
  simp only [List.getD_eq_getElem?_getD, List.getElem?_set]
  by_cases hj : i = j
  · subst hj
    simp [hi]
  · simp [hj, Ne.symm hj]
theorem xi_rep (n : Nat) : (fun j => xi ((List.replicate n (Value.int 0)).getD j .null)) = fun _ => 0 := by
  funext j
  simp only [List.getD_eq_getElem?_getD, List.getElem?_replicate]
  by_cases hj : j < n <;> simp [hj, xi]
theorem xq_rep (B : xB) (n : Nat) : (fun j => xq B ((List.replicate n Value.null).getD j .null)) = fun _ => none := by
  funext j
  simp only [List.getD_eq_getElem?_getD, List.getElem?_replicate]
  by_cases hj : j < n <;> simp [hj, xq]
theorem xtys_at {T : xT} {B : xB} {tg : Nat} (h : 12 ≤ tg) (h2 : tg < 19) : ∃ ty, (xtys T B)[tg - 12]? = some (B.2.2.1 tg, ty) := by
  rcases (show tg = 12 ∨ tg = 13 ∨ tg = 14 ∨ tg = 15 ∨ tg = 16 ∨ tg = 17 ∨ tg = 18 by omega) with rfl | rfl | rfl | rfl | rfl | rfl | rfl <;> exact ⟨_, rfl⟩
theorem xtys_ref {T : xT} {B : xB} {tg : Nat} (h : 15 ≤ tg) (h2 : tg < 19) : (xtys T B)[tg - 12]? = some (B.2.2.1 tg, .object (xtE T tg)) := by
  rcases (show tg = 15 ∨ tg = 16 ∨ tg = 17 ∨ tg = 18 by omega) with rfl | rfl | rfl | rfl <;> rfl
section XARR
variable {p : Program} {l : Launch} {e : Env} {R : Room} {s : State} {m : MethodId} {args : Array Value} {below : List Frame} {meth : Method} {c : Code} {Q : State → Prop}
variable {cc : ByteArray} {pc mi idx : Nat} {T : xT} {B : xB} {D : va_G} {mL : Nat} {h0 h : xH} {L st : List Value} {q' : xCfg} {Ts Ns : List Cond} {AO : List String} {mt : xMt}
theorem xg_mka (hC : xCtx T B D Ns AO Ts p s m args meth c mt.1 cc mL) (hpk : xOKp Ts) (hg0 : h0.1 ≤ h.1 ∧ h0.2.1 ≤ h.2.1) {tg : Nat} {at' : ArrayType} (htg : (tg = 12 ∧ at' = .byte) ∨ (tg = 13 ∧ at' = .int) ∨ (tg = 14 ∧ at' = .boolean)) (hd : decode cc pc = .ok (.newarray at', 2)) (hs : xmka tg 2 (.int 0) pc L st h = some (.inl q')) (hr : q'.2.2.2.1 - h0.1 ≤ R.cells ∧ q'.2.2.2.2.1 - h0.2.1 ≤ R.slots) (kk : xG T B D mL h0 p l e R s m args below meth c Q q') : xG T B D mL h0 p l e R s m args below meth c Q (pc, L, st, h) := by
  obtain ⟨hx, hb, hml, hown, hts, hE, hX, hbl, hbs, hin⟩ := hC
  unfold xmka at hs
  split at hs
  · rename_i k r
    split at hs
    · rename_i hk
      cases hs
      intro H locs ls hP hS hl
      have hr1 : h.1 + 1 - h0.1 ≤ R.cells := hr.1
      have hr2 : h.2.1 + (List.replicate k.toNatClampNeg (Value.int 0)).length - h0.2.1 ≤ R.slots := hr.2
      rw [List.length_replicate] at hr2
      have fin : ∀ (ty : FieldType), (xtys T B)[tg - 12]? = some (B.2.2.1 tg, ty) → (∀ n, ty ≠ .object n) → ∀ (cA : ClassId) (H1 : Heap), s.vm.findClass ("[" ++ ty.toString) = some cA → H1.size = H.size + 1 → va_P D (xtL T) (xW B h ++ [(H.size, .inl (cA, k.toNatClampNeg, .inl (fun _ => 0)))]) H1 → va_S (fun z => B.1 ≤ z) s.heap H1 locs → W p l e R s m args below meth c H1 locs (h.1 - h0.1 + 1) (h.2.1 - h0.2.1 + k.toNatClampNeg) Q (F0 m (pc + 2) ls (.ref H.size :: r.map (xtr B))) := by
        intro ty hty hno cA H1 hfc hz hP1 hS1
        have hRA := (hE.1.2 _ _ hty).2
        have hcA : cA = B.2.2.1 tg := by
          cases ty <;> first | exact absurd rfl (hno _) | exact Option.some.inj (hfc.symm.trans hRA)
        subst hcA
        have k2 := kk H1 locs ls (xP_new hP hz (by rw [xe_int (show 12 ≤ (tg, List.replicate k.toNatClampNeg (Value.int 0)).1 by dsimp only; omega) (show (tg, List.replicate k.toNatClampNeg (Value.int 0)).1 < 15 by dsimp only; omega), xi_rep, List.length_replicate]; exact hP1)) hS1 hl
        have e1 : (xnew h (tg, List.replicate k.toNatClampNeg (Value.int 0))).1 - h0.1 = h.1 - h0.1 + 1 := by show h.1 + 1 - h0.1 = _; omega
        have e2 : (xnew h (tg, List.replicate k.toNatClampNeg (Value.int 0))).2.1 - h0.2.1 = h.2.1 - h0.2.1 + k.toNatClampNeg := by show h.2.1 + (List.replicate k.toNatClampNeg (Value.int 0)).length - h0.2.1 = _; rw [List.length_replicate]; omega
        dsimp only at k2
        rw [e1, e2] at k2
        rw [hP.1]
        exact k2
      have e3 : h.1 - h0.1 + 1 ≤ R.cells := by omega
      have e4 : h.2.1 - h0.2.1 + k.toNatClampNeg ≤ R.slots := by omega
      rcases htg with ⟨rfl, rfl⟩ | ⟨rfl, rfl⟩ | ⟨rfl, rfl⟩
      · exact xs_newa (atype := .byte) (ty := .byte) (a0 := (k.toNatClampNeg, .inl (fun _ => 0))) hx hb (hts (.arrayClass .byte) hpk.1) rfl hP.2 hS (fun _ => rfl) hk.1 rfl (show k.toNatClampNeg * 1 ≤ 536870912 by omega) e3 e4 hd (fin .byte rfl (fun _ h => by cases h))
      · exact xs_newa (atype := .int) (ty := .int) (a0 := (k.toNatClampNeg, .inl (fun _ => 0))) hx hb (hts (.arrayClass .int) hpk.2.1) rfl hP.2 hS (fun _ => rfl) hk.1 rfl (show k.toNatClampNeg * 4 ≤ 536870912 by omega) e3 e4 hd (fin .int rfl (fun _ h => by cases h))
      · exact xs_newa (atype := .boolean) (ty := .boolean) (a0 := (k.toNatClampNeg, .inl (fun _ => 0))) hx hb (hts (.arrayClass .boolean) hpk.2.2) rfl hP.2 hS (fun _ => rfl) hk.1 rfl (show k.toNatClampNeg * 1 ≤ 536870912 by omega) e3 e4 hd (fin .boolean rfl (fun _ h => by cases h))
    · cases hs
  · cases hs
theorem xg_mkq (hC : xCtx T B D Ns AO Ts p s m args meth c mt.1 cc mL) (hM : xtM T mi = some mt) (hak : xOKa T Ts AO) (hg0 : h0.1 ≤ h.1 ∧ h0.2.1 ≤ h.2.1) {tg : Nat} (htA : xtA T mi idx = some tg) (ht1 : 15 ≤ tg) (ht2 : tg < 19) (hd : decode cc pc = .ok (.anewarray idx, 3)) (hs : xmka tg 3 .null pc L st h = some (.inl q')) (hr : q'.2.2.2.1 - h0.1 ≤ R.cells ∧ q'.2.2.2.2.1 - h0.2.1 ≤ R.slots) (kk : xG T B D mL h0 p l e R s m args below meth c Q q') : xG T B D mL h0 p l e R s m args below meth c Q (pc, L, st, h) := by
  obtain ⟨hx, hb, hml, hown, hts, hE, hX, hbl, hbs, hin⟩ := hC
  unfold xmka at hs
  split at hs
  · rename_i k r
    split at hs
    · rename_i hk
      cases hs
      intro H locs ls hP hS hl
      have hr1 : h.1 + 1 - h0.1 ≤ R.cells := hr.1
      have hr2 : h.2.1 + (List.replicate k.toNatClampNeg Value.null).length - h0.2.1 ≤ R.slots := hr.2
      rw [List.length_replicate] at hr2
      obtain ⟨a1, a2⟩ := hak mi mt hM idx tg htA
      refine xs_newq (A := fun z => B.1 ≤ z) hx hb hown (hts _ a1) (hE.2.2.1 _ a2) hP.2 hS hk.1 rfl (by omega) (show h.1 - h0.1 + 1 ≤ R.cells by omega) (show h.2.1 - h0.2.1 + k.toNatClampNeg ≤ R.slots by omega) hd ?_
      intro cA H1 hfc hz hP1 hS1
      have hRA := (hE.1.2 _ _ (xtys_ref (T := T) (B := B) ht1 ht2)).2
      have hcA : cA = B.2.2.1 tg := by
        obtain ⟨kA, comp, -, -, -, h9⟩ := hRA
        exact Option.some.inj (hfc.symm.trans h9)
      subst hcA
      have k2 := kk H1 locs ls (xP_new hP hz (by rw [xe_ref (show 15 ≤ (tg, List.replicate k.toNatClampNeg Value.null).1 by dsimp only; omega), xq_rep, List.length_replicate]; exact hP1)) hS1 hl
      have e1 : (xnew h (tg, List.replicate k.toNatClampNeg Value.null)).1 - h0.1 = h.1 - h0.1 + 1 := by show h.1 + 1 - h0.1 = _; omega
      have e2 : (xnew h (tg, List.replicate k.toNatClampNeg Value.null)).2.1 - h0.2.1 = h.2.1 - h0.2.1 + k.toNatClampNeg := by show h.2.1 + (List.replicate k.toNatClampNeg Value.null).length - h0.2.1 = _; rw [List.length_replicate]; omega
      dsimp only at k2
      rw [e1, e2] at k2
      rw [hP.1]
      exact k2
    · cases hs
  · cases hs
theorem xg_len (hC : xCtx T B D Ns AO Ts p s m args meth c mt.1 cc mL) (hd : decode cc pc = .ok (.arraylength, 1)) (hs : xlen T pc L st h = some (.inl q')) (kk : xG T B D mL h0 p l e R s m args below meth c Q q') : xG T B D mL h0 p l e R s m args below meth c Q (pc, L, st, h) := by
  obtain ⟨hx, hb, hml, hown, hts, hE, hX, hbl, hbs, hin⟩ := hC
  unfold xlen at hs
  split at hs
  · cases hs
    intro H locs ls hP hS hl
    exact va_slen (A := fun z => B.1 ≤ z) hx hb hX.1 (Nat.lt_of_lt_of_le hbl hbs) (by omega) hS hd (kk H locs ls hP hS hl)
  · rename_i a r
    split at hs
    · rename_i hcnd
      obtain ⟨ha, ht1, ht2⟩ := hcnd
      cases hs
      intro H locs ls hP hS hl
      obtain ⟨ty, hty⟩ := xtys_at (T := T) (B := B) ht1 ht2
      by_cases h15 : (h.2.2 a).1 < 15
      · have he := xW_get (B := B) ha
        rw [xe_int ht1 h15] at he
        exact va_alen hx hb hE.1 hP.2 a _ he hty rfl hd (kk H locs ls hP hS hl)
      · have he := xW_get (B := B) ha
        rw [xe_ref (by omega)] at he
        exact va_alen hx hb hE.1 hP.2 a _ he hty rfl hd (kk H locs ls hP hS hl)
    · cases hs
  · rename_i j r
    split at hs
    · rename_i hcnd
      obtain ⟨hj1, hj2⟩ := hcnd
      cases hs
      obtain ⟨⟨adK, adV, h1, h2⟩, -, -⟩ := hX.2
      intro H locs ls hP hS hl
      have k2 := kk H locs ls hP hS hl
      have e2 : xtr B (.retAddr (j + 1)) = .ref (adV (j - 100)) := by
        show va_rf (B.2.2.2 j) = _
        rw [show j = 100 + (j - 100) by omega, (h2 _ hj2).2, Nat.add_sub_cancel_left]
        rfl
      show W p l e R s m args below meth c H locs _ _ Q (F0 m pc ls (xtr B (.retAddr (j + 1)) :: r.map (xtr B)))
      rw [e2]
      refine va_tlen hx hb (h1.1 _ hj2).2.2.2 hS ?_ hd k2
      simp [List.getD_eq_getElem?_getD, List.getElem?_eq_getElem hj2]
    · cases hs
  · cases hs
theorem xg_tld (hC : xCtx T B D Ns AO Ts p s m args meth c mt.1 cc mL) (hd : decode cc pc = .ok (.baload, 1)) (hs : xtld T pc L st h = some (.inl q')) (kk : xG T B D mL h0 p l e R s m args below meth c Q q') : xG T B D mL h0 p l e R s m args below meth c Q (pc, L, st, h) := by
  obtain ⟨hx, hb, hml, hown, hts, hE, hX, hbl, hbs, hin⟩ := hC
  unfold xtld at hs
  split at hs
  · rename_i i j r
    split at hs
    · rename_i hcnd
      obtain ⟨⟨hj1, hj2⟩, ho⟩ := hcnd
      cases hs
      obtain ⟨⟨adK, adV, h1, h2⟩, -, -⟩ := hX.2
      intro H locs ls hP hS hl
      have k2 := kk H locs ls hP hS hl
      have e2 : xtr B (.retAddr (j + 1)) = .ref (adV (j - 100)) := by
        show va_rf (B.2.2.2 j) = _
        rw [show j = 100 + (j - 100) by omega, (h2 _ hj2).2, Nat.add_sub_cancel_left]
        rfl
      show W p l e R s m args below meth c H locs _ _ Q (F0 m pc ls (.int i :: xtr B (.retAddr (j + 1)) :: r.map (xtr B)))
      rw [e2]
      have hlen : ((xtQ T).map List.length).getD (j - 100) 0 = ((xtQ T).getD (j - 100) []).length := by
        simp [List.getD_eq_getElem?_getD, List.getElem?_eq_getElem hj2]
      exact va_tb hx hb (h1.1 _ hj2).2.2.2 hS (by rw [hlen]; exact xout_in ho) rfl hd k2
    · cases hs
  · cases hs
theorem xi_get {vs : List Value} {i : Nat} {x : Int32} (h : vs[i]? = some (.int x)) : xi (vs.getD i .null) = x := by
  rw [List.getD_eq_getElem?_getD, h]; rfl
theorem xg_aldi (hC : xCtx T B D Ns AO Ts p s m args meth c mt.1 cc mL) {tg : Nat} (htg : (tg = 12 ∧ decode cc pc = .ok (.baload, 1)) ∨ (tg = 13 ∧ decode cc pc = .ok (.iaload, 1)) ∨ (tg = 14 ∧ decode cc pc = .ok (.baload, 1))) (hs : xaload 0 tg (tg + 1) pc L st h = some (.inl q')) (kk : xG T B D mL h0 p l e R s m args below meth c Q q') : xG T B D mL h0 p l e R s m args below meth c Q (pc, L, st, h) := by
  obtain ⟨hx, hb, hml, hown, hts, hE, hX, hbl, hbs, hin⟩ := hC
  unfold xaload at hs
  split at hs
  · rename_i i a r
    split at hs
    · rename_i hcnd
      obtain ⟨ha, ⟨ht1, ht2⟩, ho⟩ := hcnd
      split at hs
      · rename_i v hv
        split at hs
        · rename_i hkv
          cases hs
          cases v with
          | int x =>
            intro H locs ls hP hS hl
            have htt : (h.2.2 a).1 = tg := by omega
            have k2 := kk H locs ls hP hS hl
            have he : (xW B h)[a]? = some (B.1 + a, .inl (B.2.2.1 tg, (h.2.2 a).2.length, .inl (fun j => xi ((h.2.2 a).2.getD j .null)))) := by rw [xW_get ha, xe_int (by omega) (by omega), htt]
            have ex := xi_get hv
            rcases htg with ⟨rfl, hd⟩ | ⟨rfl, hd⟩ | ⟨rfl, hd⟩
            · exact va_bald hx hb hE.1 hP.2 a 0 he rfl (xout_in ho) hd (by rw [ex]; exact k2)
            · exact va_iald hx hb hE.1 hP.2 a 1 he rfl (xout_in ho) hd (by rw [ex]; exact k2)
            · exact va_zald hx hb hE.1 hP.2 a 2 he rfl (xout_in ho) hd (by rw [ex]; exact k2)
          | _ => simp [xkind] at hkv
        · cases hs
      · cases hs
    · cases hs
  · cases hs
theorem xg_sld (hC : xCtx T B D Ns AO Ts p s m args meth c mt.1 cc mL) (hd : decode cc pc = .ok (.iaload, 1)) (hs : xsload T pc L st h = some (.inl q')) (kk : xG T B D mL h0 p l e R s m args below meth c Q q') : xG T B D mL h0 p l e R s m args below meth c Q (pc, L, st, h) := by
  unfold xsload at hs
  split at hs
  · rename_i i r
    obtain ⟨hx, hb, hml, hown, hts, hE, hX, hbl, hbs, hin⟩ := hC
    split at hs
    · rename_i ho
      cases hs
      intro H locs ls hP hS hl
      exact va_sld (A := fun z => B.1 ≤ z) hx hb hX.1 (Nat.lt_of_lt_of_le hbl hbs) (by omega) hS (xout_in ho) hd (kk H locs ls hP hS hl)
    · cases hs
  · exact xg_aldi hC (tg := 13) (Or.inr (Or.inl ⟨rfl, hd⟩)) hs kk
theorem xg_aldq (hC : xCtx T B D Ns AO Ts p s m args meth c mt.1 cc mL) (hd : decode cc pc = .ok (.aaload, 1)) (hs : xaload 3 15 19 pc L st h = some (.inl q')) (kk : xG T B D mL h0 p l e R s m args below meth c Q q') : xG T B D mL h0 p l e R s m args below meth c Q (pc, L, st, h) := by
  obtain ⟨hx, hb, hml, hown, hts, hE, hX, hbl, hbs, hin⟩ := hC
  unfold xaload at hs
  split at hs
  · rename_i i a r
    split at hs
    · rename_i hcnd
      obtain ⟨ha, ⟨ht1, ht2⟩, ho⟩ := hcnd
      split at hs
      · rename_i v hv
        split at hs
        · rename_i hkv
          cases hs
          intro H locs ls hP hS hl
          have k2 := kk H locs ls hP hS hl
          have ev : va_rf (xq B ((h.2.2 a).2.getD i.toNatClampNeg .null)) = xtr B v := by
            rw [List.getD_eq_getElem?_getD, hv]
            cases v <;> first | rfl | simp [xkind] at hkv
          refine va_aldq hx hb hE.1 hP.2 a _ (by rw [xW_get ha, xe_ref ht1]) (xtys_ref ht1 ht2) (xout_in ho) hd ?_
          rw [ev]
          exact k2
        · cases hs
      · cases hs
    · cases hs
  · cases hs
theorem xg_iast (hC : xCtx T B D Ns AO Ts p s m args meth c mt.1 cc mL) {tg : Nat} {f : Int32 → Int32} (htg : (tg = 12 ∧ f = vp_nar .byte ∧ decode cc pc = .ok (.bastore, 1)) ∨ (tg = 13 ∧ f = (fun x => x) ∧ decode cc pc = .ok (.iastore, 1)) ∨ (tg = 14 ∧ f = vp_nar .boolean ∧ decode cc pc = .ok (.bastore, 1))) (hs : xiast tg f pc L st h = some (.inl q')) (kk : xG T B D mL h0 p l e R s m args below meth c Q q') : xG T B D mL h0 p l e R s m args below meth c Q (pc, L, st, h) := by
  obtain ⟨hx, hb, hml, hown, hts, hE, hX, hbl, hbs, hin⟩ := hC
  unfold xiast at hs
  split at hs
  · rename_i x i a r
    split at hs
    · rename_i hcnd
      obtain ⟨ha, ht, ho⟩ := hcnd
      cases hs
      intro H locs ls hP hS hl
      have he : (xW B h)[a]? = some (B.1 + a, .inl (B.2.2.1 tg, (h.2.2 a).2.length, .inl (fun j => xi ((h.2.2 a).2.getD j .null)))) := by rw [xW_get ha, xe_int (by omega) (by omega), ht]
      have hlt : i.toNatClampNeg < (h.2.2 a).2.length := Nat.not_le.mp fun q => xout_in ho (Or.inr q)
      have fin : ∀ (H1 : Heap) (locs1 : List Loc), H1.size = H.size → va_P D (xtL T) ((xW B h).set a (B.1 + a, .inl (B.2.2.1 tg, (h.2.2 a).2.length, .inl (upd (fun j => xi ((h.2.2 a).2.getD j .null)) i.toNatClampNeg (f x))))) H1 → va_S (fun z => B.1 ≤ z) s.heap H1 locs1 → W p l e R s m args below meth c H1 locs1 (h.1 - h0.1) (h.2.1 - h0.2.1) Q (F0 m (pc + 1) ls (r.map (xtr B))) := by
        intro H1 locs1 hz hP1 hS1
        refine kk H1 locs1 ls (xP_set ha hP hz ?_) hS1 hl
        rw [xe_int (show 12 ≤ (tg, (h.2.2 a).2.set i.toNatClampNeg (.int (f x))).1 by dsimp only; omega) (show (tg, (h.2.2 a).2.set i.toNatClampNeg (.int (f x))).1 < 15 by dsimp only; omega)]
        dsimp only
        rw [xi_set hlt, List.length_set]
        exact hP1
      rcases htg with ⟨rfl, rfl, hd⟩ | ⟨rfl, rfl, hd⟩ | ⟨rfl, rfl, hd⟩
      · exact xs_bast hx hb hE.1 hP.2 (xW_D B h) hS a 0 he rfl (xout_in ho) hd fin
      · exact xs_iast hx hb hE.1 hP.2 (xW_D B h) hS a 1 he rfl (xout_in ho) hd fin
      · exact xs_zast hx hb hE.1 hP.2 (xW_D B h) hS a 2 he rfl (xout_in ho) hd fin
    · cases hs
  · cases hs
theorem xg_bast (hC : xCtx T B D Ns AO Ts p s m args meth c mt.1 cc mL) (hd : decode cc pc = .ok (.bastore, 1)) (hs : xbast pc L st h = some (.inl q')) (kk : xG T B D mL h0 p l e R s m args below meth c Q q') : xG T B D mL h0 p l e R s m args below meth c Q (pc, L, st, h) := by
  unfold xbast at hs
  split at hs
  · split at hs
    · exact xg_iast hC (Or.inl ⟨rfl, rfl, hd⟩) hs kk
    · exact xg_iast hC (Or.inr (Or.inr ⟨rfl, rfl, hd⟩)) hs kk
  · cases hs
theorem xg_aast (hC : xCtx T B D Ns AO Ts p s m args meth c mt.1 cc mL) (hek : xOKe T) (hd : decode cc pc = .ok (.aastore, 1)) (hs : xaast pc L st h = some (.inl q')) (kk : xG T B D mL h0 p l e R s m args below meth c Q q') : xG T B D mL h0 p l e R s m args below meth c Q (pc, L, st, h) := by
  obtain ⟨hx, hb, hml, hown, hts, hE, hX, hbl, hbs, hin⟩ := hC
  unfold xaast at hs
  split at hs
  · rename_i i a r
    split at hs
    · rename_i hcnd
      obtain ⟨ha, ⟨ht1, ht2⟩, ho⟩ := hcnd
      cases hs
      intro H locs ls hP hS hl
      have hlt : i.toNatClampNeg < (h.2.2 a).2.length := Nat.not_le.mp fun q => xout_in ho (Or.inr q)
      refine xs_astqN hx hb hE.1 hP.2 (xW_D B h) hS a _ (by rw [xW_get ha, xe_ref ht1]) (xtys_ref ht1 ht2) (xout_in ho) hd ?_
      intro H1 locs1 hz hP1 hS1
      refine kk H1 locs1 ls (xP_set ha hP hz ?_) hS1 hl
      rw [xe_ref (show 15 ≤ ((h.2.2 a).1, (h.2.2 a).2.set i.toNatClampNeg .null).1 from ht1)]
      dsimp only
      rw [xq_set hlt, List.length_set]
      exact hP1
    · cases hs
  · rename_i v i a r
    split at hs
    · rename_i hcnd
      obtain ⟨⟨ha, hv⟩, ⟨⟨ht1, ht2⟩, htv⟩, ho⟩ := hcnd
      cases hs
      intro H locs ls hP hS hl
      have hlt : i.toNatClampNeg < (h.2.2 a).2.length := Nat.not_le.mp fun q => xout_in ho (Or.inr q)
      obtain ⟨F, N, hr⟩ := hek _ ht1 ht2
      have hv12 : (h.2.2 v).1 < 12 := by
        rw [htv]
        rcases (show (h.2.2 a).1 = 15 ∨ (h.2.2 a).1 = 16 ∨ (h.2.2 a).1 = 17 ∨ (h.2.2 a).1 = 18 by omega) with e | e | e | e <;> rw [e] <;> decide
      rw [← htv] at hr
      refine xs_astq (r := (xtE T (h.2.2 a).1, F, N)) hx hb hE.1 hP.2 (xW_D B h) hS a _ v _ (by rw [xW_get ha, xe_ref ht1]) (xtys_ref ht1 ht2) (by rw [xW_get hv, xe_obj hv12]) hr (xout_in ho) hd ?_
      intro H1 locs1 hz hP1 hS1
      refine kk H1 locs1 ls (xP_set ha hP hz ?_) hS1 hl
      rw [xe_ref (show 15 ≤ ((h.2.2 a).1, (h.2.2 a).2.set i.toNatClampNeg (.ref v)).1 from ht1)]
      dsimp only
      rw [xq_set hlt, List.length_set]
      exact hP1
    · cases hs
  · cases hs
end XARR
