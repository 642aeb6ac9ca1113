section XSTEP
variable {p : Program} {l : Launch} {e : Env} {R : Room} {s : State} {m : MethodId} {args : Array Value} {below : List Frame} {meth : Method} {c : Code} {Q : State → Prop}
variable {cc : ByteArray} {pc mi idx : Nat} {T : xT} {B : xB} {D : va_G} {mL : Nat} {h0 h : xH} {L st : List Value} {q' : xCfg} {Ts Ns : List Cond} {AO : List String} {mt : xMt}
theorem xg_obj (hC : xCtx T B D Ns AO Ts p s m args meth c mt.1 cc mL) (hR : 1 ≤ R.frames ∧ 60 ≤ R.locals) (h1 : Cond.methodLink mt.1.cls idx Lib.objectInit ∈ Ts) (h2 : Cond.instanceMethod Lib.objectInit ∈ Ts) (h3 : Cond.code Lib.objectInit ⟨#[0xb1]⟩ 1 none ∈ Ts) (hd : decode cc pc = .ok (.invokespecial idx, 3)) (hs : xobj pc L st h = some (.inl q')) (kk : xG T B D mL h0 p l e R s m args below meth c Q q') : xG T B D mL h0 p l e R s m args below meth c Q (pc, L, st, h) := by
  obtain ⟨hx, hb, hml, hown, hts, hE, hX, hbl, hbs, hin⟩ := hC
  unfold xobj at hs
  split at hs
  · rename_i a r
    split at hs
    · rename_i hcat
      cases hs
      intro H locs ls hP hS hl
      exact W.objInit hx hb hown (hts _ h1) (hts _ h2) (hts _ h3) rfl (by rw [hml]; exact hl.2.1) rfl hd hR.1 (by
        have h9 := x_rm (m := m) (pc := pc) (ls := ls) (B := B) (st := (Value.ref a :: r).map (xtr B)) hcat
        have h10 := hR.2
        dsimp only at h9 ⊢
        omega) (kk H locs ls hP hS hl)
    · cases hs
  · cases hs
theorem xg_max (hC : xCtx T B D Ns AO Ts p s m args meth c mt.1 cc mL) (hR : 1 ≤ R.frames ∧ 60 ≤ R.locals) (hrm : h.1 - h0.1 ≤ R.cells ∧ h.2.1 - h0.2.1 ≤ R.slots) (h1 : Cond.methodLink mt.1.cls idx Lib.Math.max.name ∈ Ts) (h2 : Cond.static Lib.Math.max.name ∈ Ts) (h3 : Cond.initialized "java/lang/Math" ∈ Ts) (h4 : Cond.code Lib.Math.max.name Lib.Math.max.code 2 (some .int) ∈ Ts) (hd : decode cc pc = .ok (.invokestatic idx, 3)) (hs : xmath true pc L st h = some (.inl q')) (kk : xG T B D mL h0 p l e R s m args below meth c Q q') : xG T B D mL h0 p l e R s m args below meth c Q (pc, L, st, h) := by
  obtain ⟨hx, hb, hml, hown, hts, hE, hX, hbl, hbs, hin⟩ := hC
  unfold xmath at hs
  split at hs
  · rename_i y x r
    split at hs
    · rename_i hcat
      cases hs
      intro H locs ls hP hS hl
      have h9 : ((r.map (xtr B)).map fun v => v.category).sum + 13 ≤ R.locals := by
        rw [xtr_cat_map]
        omega
      exact va_mmax hx hb (by rw [hml]; exact hl.2.1.symm) hown (hts _ h1) (hts _ h2) (hts _ h3) (hts _ h4) hR.1 h9 hrm.1 hrm.2 hd (kk H locs ls hP hS hl)
    · cases hs
  · cases hs
theorem xg_min (hC : xCtx T B D Ns AO Ts p s m args meth c mt.1 cc mL) (hR : 1 ≤ R.frames ∧ 60 ≤ R.locals) (hrm : h.1 - h0.1 ≤ R.cells ∧ h.2.1 - h0.2.1 ≤ R.slots) (h1 : Cond.methodLink mt.1.cls idx Lib.Math.min.name ∈ Ts) (h2 : Cond.static Lib.Math.min.name ∈ Ts) (h3 : Cond.initialized "java/lang/Math" ∈ Ts) (h4 : Cond.code Lib.Math.min.name Lib.Math.min.code 2 (some .int) ∈ Ts) (hd : decode cc pc = .ok (.invokestatic idx, 3)) (hs : xmath false pc L st h = some (.inl q')) (kk : xG T B D mL h0 p l e R s m args below meth c Q q') : xG T B D mL h0 p l e R s m args below meth c Q (pc, L, st, h) := by
  obtain ⟨hx, hb, hml, hown, hts, hE, hX, hbl, hbs, hin⟩ := hC
  unfold xmath at hs
  split at hs
  · rename_i y x r
    split at hs
    · rename_i hcat
      cases hs
      intro H locs ls hP hS hl
      have h9 : ((r.map (xtr B)).map fun v => v.category).sum + 13 ≤ R.locals := by
        rw [xtr_cat_map]
        omega
      exact va_mmin hx hb (by rw [hml]; exact hl.2.1.symm) hown (hts _ h1) (hts _ h2) (hts _ h3) (hts _ h4) hR.1 h9 hrm.1 hrm.2 hd (kk H locs ls hP hS hl)
    · cases hs
  · cases hs
set_option maxHeartbeats 4000000 in
theorem xg_step (hC : xCtx T B D Ns AO Ts p s m args meth c mt.1 cc mL) (hM : xtM T mi = some mt) (hO : xOK T Ts Ns AO) (hg0 : h0.1 ≤ h.1 ∧ h0.2.1 ≤ h.2.1) (hR : 1 ≤ R.frames ∧ 60 ≤ R.locals) {ins : Jvm.ClassFile.Instr} {len : Nat} (hd : decode cc pc = .ok (ins, len)) (hs : xDo T mi ins len pc L st h = some (.inl q')) (hr : q'.2.2.2.1 - h0.1 ≤ R.cells ∧ q'.2.2.2.2.1 - h0.2.1 ≤ R.slots) (kk : xG T B D mL h0 p l e R s m args below meth c Q q') : xG T B D mL h0 p l e R s m args below meth c Q (pc, L, st, h) := by
  have hmon : h.1 ≤ q'.2.2.2.1 ∧ h.2.1 ≤ q'.2.2.2.2.1 := xDo_mono hs
  have hrm : h.1 - h0.1 ≤ R.cells ∧ h.2.1 - h0.2.1 ≤ R.slots := by omega
  have hx := hC.1
  have hb := hC.2.1
  have hown := hC.2.2.2.1
  have hts := hC.2.2.2.2.1
  obtain ⟨oi, of, ol, oc, oa, op, oe, oj, ov, on, ot, og⟩ := hO
  cases ins with
  | aconst_null =>
    replace hs : (if len = 1 then xpush 1 .null pc L st h else none) = some (.inl q') := hs
    split at hs
    · rename_i hlen
      subst hlen
      cases hs
      intro H locs ls hP hS hl
      exact lv_null hx hb hd (kk H locs ls hP hS hl)
    · cases hs
  | iconst n =>
    replace hs : (if len = 1 then xpush 1 (.int (Int32.ofInt n)) pc L st h else none) = some (.inl q') := hs
    split at hs
    · rename_i hlen
      subst hlen
      cases hs
      intro H locs ls hP hS hl
      exact lv_iconst hx hb hd rfl (kk H locs ls hP hS hl)
    · cases hs
  | bipush n =>
    replace hs : (if len = 2 then xpush 2 (.int (Int8.ofInt n).toInt32) pc L st h else none) = some (.inl q') := hs
    split at hs
    · rename_i hlen
      subst hlen
      cases hs
      intro H locs ls hP hS hl
      exact lv_bipush hx hb hd rfl (kk H locs ls hP hS hl)
    · cases hs
  | sipush n =>
    replace hs : (if len = 3 then xpush 3 (.int (Int16.ofInt n).toInt32) pc L st h else none) = some (.inl q') := hs
    split at hs
    · rename_i hlen
      subst hlen
      cases hs
      intro H locs ls hP hS hl
      exact lv_sipush hx hb hd rfl (kk H locs ls hP hS hl)
    · cases hs
  | ldc2_w i =>
    replace hs : (if len = 3 then xpush? 3 ((xtJ T mi i).map .long) pc L st h else none) = some (.inl q') := hs
    split at hs
    · rename_i hlen
      subst hlen
      cases hj : xtJ T mi i with
      | none => rw [hj] at hs; cases hs
      | some v =>
        rw [hj] at hs
        cases hs
        intro H locs ls hP hS hl
        exact lv_ldc2 hx hb hown (hts _ (oj mi mt hM i v hj)) hd (kk H locs ls hP hS hl)
    · cases hs
  | iload i =>
    replace hs : (if len = 2 then xload 0 i 2 pc L st h else none) = some (.inl q') := hs
    split at hs
    · rename_i hlen
      subst hlen
      exact xg_load hx hb (Or.inl ⟨rfl, hd⟩) hs kk
    · cases hs
  | iload_n i =>
    replace hs : (if len = 1 then xload 0 i 1 pc L st h else none) = some (.inl q') := hs
    split at hs
    · rename_i hlen
      subst hlen
      exact xg_load hx hb (Or.inr ⟨rfl, i, rfl, hd⟩) hs kk
    · cases hs
  | aload i =>
    replace hs : (if len = 2 then xload 1 i 2 pc L st h else none) = some (.inl q') := hs
    split at hs
    · rename_i hlen
      subst hlen
      exact xg_loadA hx hb (Or.inl ⟨rfl, hd⟩) hs kk
    · cases hs
  | aload_n i =>
    replace hs : (if len = 1 then xload 1 i 1 pc L st h else none) = some (.inl q') := hs
    split at hs
    · rename_i hlen
      subst hlen
      exact xg_loadA hx hb (Or.inr ⟨rfl, i, rfl, hd⟩) hs kk
    · cases hs
  | lload_n i =>
    replace hs : (if len = 1 then xload 2 i 1 pc L st h else none) = some (.inl q') := hs
    split at hs
    · rename_i hlen
      subst hlen
      exact xg_loadL hx hb ⟨i, rfl, hd⟩ hs kk
    · cases hs
  | istore i =>
    replace hs : (if len = 2 then xstore 0 i 2 pc L st h else none) = some (.inl q') := hs
    split at hs
    · rename_i hlen
      subst hlen
      exact xg_store hx hb (Or.inl ⟨rfl, hd⟩) hs kk
    · cases hs
  | istore_n i =>
    replace hs : (if len = 1 then xstore 0 i 1 pc L st h else none) = some (.inl q') := hs
    split at hs
    · rename_i hlen
      subst hlen
      exact xg_store hx hb (Or.inr ⟨rfl, i, rfl, hd⟩) hs kk
    · cases hs
  | astore i =>
    replace hs : (if len = 2 then xstore 1 i 2 pc L st h else none) = some (.inl q') := hs
    split at hs
    · rename_i hlen
      subst hlen
      exact xg_storeA hx hb (Or.inl ⟨rfl, hd⟩) hs kk
    · cases hs
  | astore_n i =>
    replace hs : (if len = 1 then xstore 1 i 1 pc L st h else none) = some (.inl q') := hs
    split at hs
    · rename_i hlen
      subst hlen
      exact xg_storeA hx hb (Or.inr ⟨rfl, i, rfl, hd⟩) hs kk
    · cases hs
  | iinc i n =>
    replace hs : (if len = 3 then xinc i n pc L st h else none) = some (.inl q') := hs
    split at hs
    · rename_i hlen
      subst hlen
      exact xg_inc hx hb hd hs kk
    · cases hs
  | iadd =>
    replace hs : (if len = 1 then xbin (fun x y => x + y) pc L st h else none) = some (.inl q') := hs
    split at hs
    · rename_i hlen
      subst hlen
      unfold xbin at hs
      split at hs
      · cases hs
        intro H locs ls hP hS hl
        exact lv_iadd hx hb hd (kk H locs ls hP hS hl)
      · cases hs
    · cases hs
  | isub =>
    replace hs : (if len = 1 then xbin (fun x y => x - y) pc L st h else none) = some (.inl q') := hs
    split at hs
    · rename_i hlen
      subst hlen
      unfold xbin at hs
      split at hs
      · cases hs
        intro H locs ls hP hS hl
        exact lv_isub hx hb hd (kk H locs ls hP hS hl)
      · cases hs
    · cases hs
  | imul =>
    replace hs : (if len = 1 then xbin (fun x y => x * y) pc L st h else none) = some (.inl q') := hs
    split at hs
    · rename_i hlen
      subst hlen
      unfold xbin at hs
      split at hs
      · cases hs
        intro H locs ls hP hS hl
        exact lv_imul hx hb hd (kk H locs ls hP hS hl)
      · cases hs
    · cases hs
  | iand =>
    replace hs : (if len = 1 then xbin (fun x y => x &&& y) pc L st h else none) = some (.inl q') := hs
    split at hs
    · rename_i hlen
      subst hlen
      unfold xbin at hs
      split at hs
      · cases hs
        intro H locs ls hP hS hl
        exact lv_iand hx hb hd (kk H locs ls hP hS hl)
      · cases hs
    · cases hs
  | ishr =>
    replace hs : (if len = 1 then xbin (fun x y => x >>> (y &&& 31)) pc L st h else none) = some (.inl q') := hs
    split at hs
    · rename_i hlen
      subst hlen
      unfold xbin at hs
      split at hs
      · cases hs
        intro H locs ls hP hS hl
        exact lv_ishr hx hb hd (kk H locs ls hP hS hl)
      · cases hs
    · cases hs
  | iushr =>
    replace hs : (if len = 1 then xbin (fun x y => (x.toUInt32 >>> (y.toUInt32 &&& Int32.toUInt32 31)).toInt32) pc L st h else none) = some (.inl q') := hs
    split at hs
    · rename_i hlen
      subst hlen
      unfold xbin at hs
      split at hs
      · cases hs
        intro H locs ls hP hS hl
        exact lv_iushr hx hb hd rfl (kk H locs ls hP hS hl)
      · cases hs
    · cases hs
  | idiv =>
    replace hs : (if len = 1 then xdiv true pc L st h else none) = some (.inl q') := hs
    split at hs
    · rename_i hlen
      subst hlen
      exact xg_div (b := true) hx hb hd hs kk
    · cases hs
  | irem =>
    replace hs : (if len = 1 then xdiv false pc L st h else none) = some (.inl q') := hs
    split at hs
    · rename_i hlen
      subst hlen
      exact xg_div (b := false) hx hb hd hs kk
    · cases hs
  | i2b =>
    replace hs : (if len = 1 then xi2b pc L st h else none) = some (.inl q') := hs
    split at hs
    · rename_i hlen
      subst hlen
      unfold xi2b at hs
      split at hs
      · cases hs
        intro H locs ls hP hS hl
        exact lv_i2b hx hb hd rfl (kk H locs ls hP hS hl)
      · cases hs
    · cases hs
  | i2c =>
    replace hs : (if len = 1 then xi2c pc L st h else none) = some (.inl q') := hs
    split at hs
    · rename_i hlen
      subst hlen
      unfold xi2c at hs
      split at hs
      · cases hs
        intro H locs ls hP hS hl
        exact lv_i2c hx hb hd rfl (kk H locs ls hP hS hl)
      · cases hs
    · cases hs
  | ldc i =>
    replace hs : (if len = 2 then xldc T mi i 2 pc L st h else none) = some (.inl q') := hs
    split at hs
    · rename_i hlen
      subst hlen
      exact xg_ldc hC hM (Or.inl ⟨rfl, hd⟩) hs kk
    · cases hs
  | ldc_w i =>
    replace hs : (if len = 3 then xldc T mi i 3 pc L st h else none) = some (.inl q') := hs
    split at hs
    · rename_i hlen
      subst hlen
      exact xg_ldc hC hM (Or.inr ⟨rfl, hd⟩) hs kk
    · cases hs
  | getstatic i =>
    replace hs : (if len = 3 then xgst T mi i pc L st h else none) = some (.inl q') := hs
    split at hs
    · rename_i hlen
      subst hlen
      exact xg_gst hC hM ot hd hs kk
    · cases hs
  | l2i =>
    replace hs : (if len = 1 then xl2i pc L st h else none) = some (.inl q') := hs
    split at hs
    · rename_i hlen
      subst hlen
      unfold xl2i at hs
      split at hs
      · cases hs
        intro H locs ls hP hS hl
        exact lv_l2i hx hb hd rfl (kk H locs ls hP hS hl)
      · cases hs
    · cases hs
  | lshr =>
    replace hs : (if len = 1 then xlshr pc L st h else none) = some (.inl q') := hs
    split at hs
    · rename_i hlen
      subst hlen
      unfold xlshr at hs
      split at hs
      · cases hs
        intro H locs ls hP hS hl
        exact lv_lshr hx hb hd rfl (kk H locs ls hP hS hl)
      · cases hs
    · cases hs
  | land =>
    replace hs : (if len = 1 then xlong (fun x y => x &&& y) pc L st h else none) = some (.inl q') := hs
    split at hs
    · rename_i hlen
      subst hlen
      unfold xlong at hs
      split at hs
      · cases hs
        intro H locs ls hP hS hl
        exact lv_land hx hb hd (kk H locs ls hP hS hl)
      · cases hs
    · cases hs
  | dup =>
    replace hs : (if len = 1 then xdup pc L st h else none) = some (.inl q') := hs
    split at hs
    · rename_i hlen
      subst hlen
      exact xg_dup hx hb hd hs kk
    · cases hs
  | dup2 =>
    replace hs : (if len = 1 then xdup2 pc L st h else none) = some (.inl q') := hs
    split at hs
    · rename_i hlen
      subst hlen
      exact xg_dup2 hx hb hd hs kk
    · cases hs
  | pop =>
    replace hs : (if len = 1 then xpop pc L st h else none) = some (.inl q') := hs
    split at hs
    · rename_i hlen
      subst hlen
      exact xg_pop hx hb hd hs kk
    · cases hs
  | ifCond k off =>
    replace hs : (if len = 3 then xif k pc off L st h else none) = some (.inl q') := hs
    split at hs
    · rename_i hlen
      subst hlen
      exact xg_if hx hb hd hs kk
    · cases hs
  | if_icmp k off =>
    replace hs : (if len = 3 then xicmp k pc off L st h else none) = some (.inl q') := hs
    split at hs
    · rename_i hlen
      subst hlen
      exact xg_icmp hx hb hd hs kk
    · cases hs
  | if_acmp k off =>
    cases k with
    | eq =>
      replace hs : (if len = 3 then xacmp false pc off L st h else none) = some (.inl q') := hs
      split at hs
      · rename_i hlen
        subst hlen
        exact xg_acmp (ne := false) hx hb hd hs kk
      · cases hs
    | ne =>
      replace hs : (if len = 3 then xacmp true pc off L st h else none) = some (.inl q') := hs
      split at hs
      · rename_i hlen
        subst hlen
        exact xg_acmp (ne := true) hx hb hd hs kk
      · cases hs
  | ifnull off =>
    replace hs : (if len = 3 then xnul false pc off L st h else none) = some (.inl q') := hs
    split at hs
    · rename_i hlen
      subst hlen
      exact xg_nul hx hb hd hs kk
    · cases hs
  | ifnonnull off =>
    replace hs : (if len = 3 then xnul true pc off L st h else none) = some (.inl q') := hs
    split at hs
    · rename_i hlen
      subst hlen
      exact xg_nnul hx hb hd hs kk
    · cases hs
  | goto off =>
    replace hs : (if len = 3 then xto pc off L st h else none) = some (.inl q') := hs
    split at hs
    · rename_i hlen
      subst hlen
      exact xg_goto hx hb hd hs kk
    · cases hs
  | tableswitch d lo hi os => exact xg_tsw hx hb hd hs kk
  | lookupswitch d ps => exact xg_lsw hx hb hd hs kk
  | getfield i =>
    replace hs : (if len = 3 then xget T mi i pc L st h else none) = some (.inl q') := hs
    split at hs
    · rename_i hlen
      subst hlen
      exact xg_get hC hM of ol ot hd hs kk
    · cases hs
  | putfield i =>
    replace hs : (if len = 3 then xput T mi i pc L st h else none) = some (.inl q') := hs
    split at hs
    · rename_i hlen
      subst hlen
      exact xg_put hC hM of ol hd hs kk
    · cases hs
  | new i =>
    replace hs : (if len = 3 then xmk T mi i pc L st h else none) = some (.inl q') := hs
    split at hs
    · rename_i hlen
      subst hlen
      exact xg_mk hC hM oc ol hg0 hd hs hr kk
    · cases hs
  | newarray a =>
    cases a with
    | byte =>
      replace hs : (if len = 2 then xmka 12 2 (.int 0) pc L st h else none) = some (.inl q') := hs
      split at hs
      · rename_i hlen
        subst hlen
        exact xg_mka hC op hg0 (Or.inl ⟨rfl, rfl⟩) hd hs hr kk
      · cases hs
    | int =>
      replace hs : (if len = 2 then xmka 13 2 (.int 0) pc L st h else none) = some (.inl q') := hs
      split at hs
      · rename_i hlen
        subst hlen
        exact xg_mka hC op hg0 (Or.inr (Or.inl ⟨rfl, rfl⟩)) hd hs hr kk
      · cases hs
    | boolean =>
      replace hs : (if len = 2 then xmka 14 2 (.int 0) pc L st h else none) = some (.inl q') := hs
      split at hs
      · rename_i hlen
        subst hlen
        exact xg_mka hC op hg0 (Or.inr (Or.inr ⟨rfl, rfl⟩)) hd hs hr kk
      · cases hs
    | _ => cases hs
  | anewarray i =>
    replace hs : (if len = 3 then (match xtA T mi i with
    | some tg => if 15 ≤ tg ∧ tg < 19 then xmka tg 3 .null pc L st h else none
    | none => none) else none) = some (.inl q') := hs
    split at hs
    · rename_i hlen
      subst hlen
      split at hs
      · rename_i tg htg
        split at hs
        · rename_i ht
          exact xg_mkq hC hM oa hg0 htg ht.1 ht.2 hd hs hr kk
        · cases hs
      · cases hs
    · cases hs
  | arraylength =>
    replace hs : (if len = 1 then xlen T pc L st h else none) = some (.inl q') := hs
    split at hs
    · rename_i hlen
      subst hlen
      exact xg_len hC hd hs kk
    · cases hs
  | iaload =>
    replace hs : (if len = 1 then xsload T pc L st h else none) = some (.inl q') := hs
    split at hs
    · rename_i hlen
      subst hlen
      exact xg_sld hC hd hs kk
    · cases hs
  | baload =>
    replace hs : (if len = 1 then (match st with
    | .int _ :: .ref a :: _ => if (h.2.2 a).1 = 12 then xaload 0 12 13 pc L st h else xaload 0 14 15 pc L st h
    | _ => xtld T pc L st h) else none) = some (.inl q') := hs
    split at hs
    · rename_i hlen
      subst hlen
      split at hs
      · split at hs
        · exact xg_aldi hC (tg := 12) (Or.inl ⟨rfl, hd⟩) hs kk
        · exact xg_aldi hC (tg := 14) (Or.inr (Or.inr ⟨rfl, hd⟩)) hs kk
      · exact xg_tld hC hd hs kk
    · cases hs
  | aaload =>
    replace hs : (if len = 1 then xaload 3 15 19 pc L st h else none) = some (.inl q') := hs
    split at hs
    · rename_i hlen
      subst hlen
      exact xg_aldq hC hd hs kk
    · cases hs
  | iastore =>
    replace hs : (if len = 1 then xiast 13 (fun x => x) pc L st h else none) = some (.inl q') := hs
    split at hs
    · rename_i hlen
      subst hlen
      exact xg_iast hC (Or.inr (Or.inl ⟨rfl, rfl, hd⟩)) hs kk
    · cases hs
  | bastore =>
    replace hs : (if len = 1 then xbast pc L st h else none) = some (.inl q') := hs
    split at hs
    · rename_i hlen
      subst hlen
      exact xg_bast hC hd hs kk
    · cases hs
  | aastore =>
    replace hs : (if len = 1 then xaast pc L st h else none) = some (.inl q') := hs
    split at hs
    · rename_i hlen
      subst hlen
      exact xg_aast hC oe hd hs kk
    · cases hs
  | invokevirtual i =>
    replace hs : (if len = 3 then xvirt T mi i pc L st h else none) = some (.inl q') := hs
    split at hs
    · rename_i hlen
      subst hlen
      exfalso
      unfold xvirt at hs
      split at hs
      · split at hs
        · unfold xcallI at hs
          repeat' split at hs
          all_goals cases hs
        · split at hs
          · unfold xcallT at hs
            repeat' split at hs
            all_goals cases hs
          · cases hs
      · cases hs
    · cases hs
  | invokespecial i =>
    replace hs : (if len = 3 then xspec T mi i pc L st h else none) = some (.inl q') := hs
    split at hs
    · rename_i hlen
      subst hlen
      unfold xspec at hs
      split at hs
      · rename_i kd mj ci hv
        split at hs
        · rename_i hk
          obtain ⟨-, g6, -, -, -⟩ := ov mi mt hM i kd mj ci hv
          obtain ⟨a1, a2, a3⟩ := g6 hk
          exact xg_obj hC hR a1 a2 a3 hd hs kk
        · exfalso
          split at hs
          · unfold xcallI at hs
            repeat' split at hs
            all_goals cases hs
          · cases hs
      · cases hs
    · cases hs
  | invokestatic i =>
    replace hs : (if len = 3 then xstat T mi i pc L st h else none) = some (.inl q') := hs
    split at hs
    · rename_i hlen
      subst hlen
      unfold xstat at hs
      split at hs
      · rename_i kd mj ci hv
        obtain ⟨-, -, g7, g8, -⟩ := ov mi mt hM i kd mj ci hv
        split at hs
        · rename_i hk
          obtain ⟨a1, a2, a3, a4⟩ := g7 hk
          exact xg_max hC hR hrm a1 a2 a3 a4 hd hs kk
        · split at hs
          · rename_i hk
            obtain ⟨a1, a2, a3, a4⟩ := g8 hk
            exact xg_min hC hR hrm a1 a2 a3 a4 hd hs kk
          · exfalso
            split at hs
            · unfold xcallS at hs
              repeat' split at hs
              all_goals cases hs
            · cases hs
      · cases hs
    · cases hs
  | ireturn =>
    replace hs : (if len = 1 then xret T mi st h else none) = some (.inl q') := hs
    split at hs
    · rename_i hlen
      subst hlen
      exfalso
      unfold xret at hs
      repeat' split at hs
      all_goals cases hs
    · cases hs
  | areturn =>
    replace hs : (if len = 1 then xaret T mi st h else none) = some (.inl q') := hs
    split at hs
    · rename_i hlen
      subst hlen
      exfalso
      unfold xaret at hs
      repeat' split at hs
      all_goals cases hs
    · cases hs
  | return_ =>
    replace hs : (if len = 1 then xvret T mi st h else none) = some (.inl q') := hs
    split at hs
    · rename_i hlen
      subst hlen
      exfalso
      unfold xvret at hs
      repeat' split at hs
      all_goals cases hs
    · cases hs
  | _ => cases hs
end XSTEP
