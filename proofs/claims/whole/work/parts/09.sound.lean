section XSOUND
variable {p : Program} {l : Launch} {e : Env} {R : Room} {s : State} {m : MethodId} {args : Array Value} {below : List Frame} {meth : Method} {c : Code} {Q : State → Prop}
variable {cc : ByteArray} {pc mi idx : Nat} {T : xT} {B : xB} {D : va_G} {mL : Nat} {h0 h : xH} {L st : List Value} {q' : xCfg} {Ts Ns : List Cond} {AO : List String} {mt : xMt}
theorem x_split (n : Nat) (st : List Value) : st.map (xtr B) = (((st.take n).reverse).map (xtr B)).reverse ++ (st.drop n).map (xtr B) := by
  rw [← List.map_reverse, List.reverse_reverse, ← List.map_append, List.take_append_drop]
theorem x_pre {as : List Value} {H : Heap} {locs : List Loc} (hC : xCtx T B D Ns AO Ts p s m args meth c mt.1 cc mL) (on : xOKn Ns) (hP : xP T B D h H) (hS : va_S (fun z => B.1 ≤ z) s.heap H locs) : ∀ U : State, U.heap = H → s.WarmedH U.vm → xPc T B D Ns AO as h (as.map (xtr B)).toArray U := by
  obtain ⟨hx, hb, hml, hown, hts, hE, hX, hbl, hbs, hin⟩ := hC
  intro U hU hW
  refine ⟨rfl, by rw [hU]; exact hP, hE.warm on hW, ?_, hbl⟩
  refine ⟨va_X.moved hW.alike (hX.1.kept ?_), xTx.moved hW.alike (hX.2.kept ?_)⟩
  · rw [hU]
    exact hS.2.1 _ (Nat.lt_of_lt_of_le hbl hbs) (Nat.not_le.mpr hbl)
  · rw [hU]
    exact hS.2.1
theorem x_good (og : ∀ w ∈ Ts, (w.onTables && w.keeps) = true ∨ ∃ ty, w = .arrayClass ty) {w0 : Cond} (n2 : w0 ∈ Ts) : GoodIn Ts (w0 :: Ts) := by
  intro w hw
  rcases List.mem_cons.mp hw with rfl | hw
  · exact ⟨n2, og _ n2⟩
  · exact ⟨hw, og _ hw⟩
theorem x_len {n : Nat} {st : List Value} (hn : n ≤ st.length) : (((st.take n).reverse).map (xtr B)).length = n := by
  rw [List.length_map, List.length_reverse, List.length_take]
  exact Nat.min_eq_left hn
theorem x_stk {n a : Nat} {st rest : List Value} (hst : st.drop n = .ref a :: rest) : st.map (xtr B) = (((st.take n).reverse).map (xtr B)).reverse ++ Value.ref (B.1 + a) :: rest.map (xtr B) := by
  rw [x_split n st, hst]
  rfl
theorem x_stkT {n a b : Nat} {st rest : List Value} (hst : st.drop n = .retAddr (a + 1) :: rest) (hb : xtr B (.retAddr (a + 1)) = .ref b) : st.map (xtr B) = (((st.take n).reverse).map (xtr B)).reverse ++ Value.ref b :: rest.map (xtr B) := by
  rw [x_split n st, hst, List.map_cons, hb]
theorem x_rm {ls : Array Slot} {st rest : List Value} (hcat : xcat rest ≤ 8) : 2 * (F0 m pc ls st).monitorRoom + ((rest.map (xtr B)).map fun v => v.category).sum ≤ 8 := lv_room (by rw [xtr_cat_map]; exact hcat)
theorem x_cs {z : xR} (hg0 : h0.1 ≤ h.1 ∧ h0.2.1 ≤ h.2.1) (hmono : h.1 ≤ z.2.1 ∧ h.2.1 ≤ z.2.2.1) (hr : z.2.1 - h0.1 ≤ R.cells ∧ z.2.2.1 - h0.2.1 ≤ R.slots) : h.1 - h0.1 + (z.2.1 - h.1) ≤ R.cells ∧ h.2.1 - h0.2.1 + (z.2.2.1 - h.2.1) ≤ R.slots := by omega
theorem xg_c0 (hC : xCtx T B D Ns AO Ts p s m args meth c mt.1 cc mL) (on : xOKn Ns) (og : ∀ w ∈ Ts, (w.onTables && w.keeps) = true ∨ ∃ ty, w = .arrayClass ty) (hg0 : h0.1 ≤ h.1 ∧ h0.2.1 ≤ h.2.1) {d ci : Nat} {z : xR} {mt' : xMt} {a : Nat} {rest : List Value} (m2 : xOKm Ts mt') (hroom : d + 1 ≤ R.frames ∧ 8 + (mt'.2.2.1 + 11) + d * 60 ≤ R.locals) (hmono : h.1 ≤ z.2.1 ∧ h.2.1 ≤ z.2.2.1) (hr : z.2.1 - h0.1 ≤ R.cells ∧ z.2.2.1 - h0.2.1 ≤ R.slots) (hn : mt'.2.2.2.2 ≤ st.length) (hcat : xcat rest ≤ 8) (hst : st.drop mt'.2.2.2.2 = .ref a :: rest) (ha : a < h.1) (hci : (h.2.2 a).1 = ci) (hci2 : ci < 12) (i1 : Cond.instanceMethod mt'.1 ∈ Ts) (i2 : Cond.selects mt'.1.cls mt'.1 mt'.1 ∈ Ts) {F : u_T} {N : Nat} (i3 : (xtL T)[ci]? = some (mt'.1.cls, F, N)) (hlk : Cond.methodLink mt.1.cls idx mt'.1 ∈ Ts) (hd : decode cc pc = .ok (.invokevirtual idx, 3)) (hMet : Met l mt'.1 (Cond.code mt'.1 mt'.2.1 mt'.2.2.1 mt'.2.2.2.1 :: Ts) { frames := d, cells := z.2.1 - h.1, slots := z.2.2.1 - h.2.1, locals := d * 60 } (xPc T B D Ns AO (.ref a :: (st.take mt'.2.2.2.2).reverse) h) (xQc T B D z) (z.2.1 - h.1) (z.2.2.1 - h.2.1) (fun q => B.1 ≤ q))
    (kk : xG T B D mL h0 p l e R s m args below meth c Q (pc + 3, L, z.1.toList ++ rest, z.2)) : xG T B D mL h0 p l e R s m args below meth c Q (pc, L, st, h) := by
  have hC2 := hC
  obtain ⟨hx, hb, hml, hown, hts, hE, hX, hbl, hbs, hin⟩ := hC2
  obtain ⟨n1, n2, n3, n4, n5⟩ := m2
  intro H locs ls hP hS hl
  have he : (xW B h)[a]? = some (B.1 + a, .inr (ci, (h.2.2 a).2.map (xtr B))) := by rw [xW_get ha, xe_obj (by rw [hci]; exact hci2), hci]
  have hr2 := va_runV (C := mt'.1.cls) (b := B.1 + a) (As := ((st.take mt'.2.2.2.2).reverse).map (xtr B)) (rest := rest.map (xtr B)) (g := F0 m pc ls (st.map (xtr B))) ⟨hx, hb, hml, hown, hts⟩ hMet ⟨callB_of mt'.2.2.2.2 hts (x_good og n2) rfl rfl rfl (hts _ n3) (hts _ hlk) n4 hroom, hts _ i1, hts _ i2⟩ ⟨xPc_blind on, va_recv hE.1 hP.2 i3 he, x_pre (as := (.ref a :: (st.take mt'.2.2.2.2).reverse)) hC on hP hS⟩ rfl (x_len hn) hl.2.1 (x_stk hst) (x_rm hcat) hd (x_cs hg0 hmono hr) (l := l) (e := e) (below := below) (meth := meth) (locs := locs) (cells := h.1 - h0.1) (slots := h.2.1 - h0.2.1) (p := p) (R := R)
  exact xg_back hg0 hmono hr2 hS hl kk
theorem xg_c1 (hC : xCtx T B D Ns AO Ts p s m args meth c mt.1 cc mL) (on : xOKn Ns) (og : ∀ w ∈ Ts, (w.onTables && w.keeps) = true ∨ ∃ ty, w = .arrayClass ty) (hg0 : h0.1 ≤ h.1 ∧ h0.2.1 ≤ h.2.1) {d ci : Nat} {z : xR} {mt' : xMt} {a : Nat} {rest : List Value} (m2 : xOKm Ts mt') (hroom : d + 1 ≤ R.frames ∧ 8 + (mt'.2.2.1 + 11) + d * 60 ≤ R.locals) (hmono : h.1 ≤ z.2.1 ∧ h.2.1 ≤ z.2.2.1) (hr : z.2.1 - h0.1 ≤ R.cells ∧ z.2.2.1 - h0.2.1 ≤ R.slots) (hn : mt'.2.2.2.2 ≤ st.length) (hcat : xcat rest ≤ 8) (hst : st.drop mt'.2.2.2.2 = .ref a :: rest) (ha : a < h.1) (hci : (h.2.2 a).1 = ci) (hci2 : ci < 12) (i1 : Cond.instanceMethod mt'.1 ∈ Ts) (i2 : Cond.selects mt'.1.cls mt'.1 mt'.1 ∈ Ts) {F : u_T} {N : Nat} (i3 : (xtL T)[ci]? = some (mt'.1.cls, F, N)) {host : String} (hlk : Cond.methodLinkNest mt.1.cls idx mt'.1 host ∈ Ns) (hd : decode cc pc = .ok (.invokevirtual idx, 3)) (hMet : Met l mt'.1 (Cond.code mt'.1 mt'.2.1 mt'.2.2.1 mt'.2.2.2.1 :: Ts) { frames := d, cells := z.2.1 - h.1, slots := z.2.2.1 - h.2.1, locals := d * 60 } (xPc T B D Ns AO (.ref a :: (st.take mt'.2.2.2.2).reverse) h) (xQc T B D z) (z.2.1 - h.1) (z.2.2.1 - h.2.1) (fun q => B.1 ≤ q))
    (kk : xG T B D mL h0 p l e R s m args below meth c Q (pc + 3, L, z.1.toList ++ rest, z.2)) : xG T B D mL h0 p l e R s m args below meth c Q (pc, L, st, h) := by
  have hC2 := hC
  obtain ⟨hx, hb, hml, hown, hts, hE, hX, hbl, hbs, hin⟩ := hC2
  obtain ⟨n1, n2, n3, n4, n5⟩ := m2
  intro H locs ls hP hS hl
  have he : (xW B h)[a]? = some (B.1 + a, .inr (ci, (h.2.2 a).2.map (xtr B))) := by rw [xW_get ha, xe_obj (by rw [hci]; exact hci2), hci]
  have hr2 := va_runVN (C := mt'.1.cls) (host := host) (b := B.1 + a) (As := ((st.take mt'.2.2.2.2).reverse).map (xtr B)) (rest := rest.map (xtr B)) (g := F0 m pc ls (st.map (xtr B))) ⟨hx, hb, hml, hown, hts⟩ hMet ⟨va_cnB mt'.2.2.2.2 hts (x_good og n2) rfl rfl rfl (hE.2.1 _ hlk) (hts _ n3) n4 hroom, hts _ i1, hts _ i2⟩ ⟨xPc_blind on, va_recv hE.1 hP.2 i3 he, x_pre (as := (.ref a :: (st.take mt'.2.2.2.2).reverse)) hC on hP hS⟩ rfl (x_len hn) hl.2.1 (x_stk hst) (x_rm hcat) hd (x_cs hg0 hmono hr) (l := l) (e := e) (below := below) (meth := meth) (locs := locs) (cells := h.1 - h0.1) (slots := h.2.1 - h0.2.1) (p := p) (R := R)
  exact xg_back hg0 hmono hr2 hS hl kk
theorem xg_c2 (hC : xCtx T B D Ns AO Ts p s m args meth c mt.1 cc mL) (on : xOKn Ns) (og : ∀ w ∈ Ts, (w.onTables && w.keeps) = true ∨ ∃ ty, w = .arrayClass ty) (hg0 : h0.1 ≤ h.1 ∧ h0.2.1 ≤ h.2.1) {d ci : Nat} {z : xR} {mt' : xMt} {a : Nat} {rest : List Value} (m2 : xOKm Ts mt') (hroom : d + 1 ≤ R.frames ∧ 8 + (mt'.2.2.1 + 11) + d * 60 ≤ R.locals) (hmono : h.1 ≤ z.2.1 ∧ h.2.1 ≤ z.2.2.1) (hr : z.2.1 - h0.1 ≤ R.cells ∧ z.2.2.1 - h0.2.1 ≤ R.slots) (hn : mt'.2.2.2.2 ≤ st.length) (hcat : xcat rest ≤ 8) (hst : st.drop mt'.2.2.2.2 = .ref a :: rest) (i1 : mt'.1.name = "<init>") (i2 : Cond.instanceMethod mt'.1 ∈ Ts) (i3 : mt'.2.2.2.1 = none) (hlk : Cond.methodLink mt.1.cls idx mt'.1 ∈ Ts) (hd : decode cc pc = .ok (.invokespecial idx, 3)) (hMet : Met l mt'.1 (Cond.code mt'.1 mt'.2.1 mt'.2.2.1 mt'.2.2.2.1 :: Ts) { frames := d, cells := z.2.1 - h.1, slots := z.2.2.1 - h.2.1, locals := d * 60 } (xPc T B D Ns AO (.ref a :: (st.take mt'.2.2.2.2).reverse) h) (xQc T B D z) (z.2.1 - h.1) (z.2.2.1 - h.2.1) (fun q => B.1 ≤ q))
    (kk : xG T B D mL h0 p l e R s m args below meth c Q (pc + 3, L, z.1.toList ++ rest, z.2)) : xG T B D mL h0 p l e R s m args below meth c Q (pc, L, st, h) := by
  have hC2 := hC
  obtain ⟨hx, hb, hml, hown, hts, hE, hX, hbl, hbs, hin⟩ := hC2
  obtain ⟨n1, n2, n3, n4, n5⟩ := m2
  intro H locs ls hP hS hl
  rw [i3] at hMet n2
  have hr2 := va_runI (b := B.1 + a) (As := ((st.take mt'.2.2.2.2).reverse).map (xtr B)) (rest := rest.map (xtr B)) (g := F0 m pc ls (st.map (xtr B))) ⟨hx, hb, hml, hown, hts⟩ hMet ⟨callB_of mt'.2.2.2.2 hts (x_good og n2) rfl rfl rfl (hts _ n3) (hts _ hlk) n4 hroom, i1, hts _ i2⟩ ⟨xPc_blind on, x_pre (as := (.ref a :: (st.take mt'.2.2.2.2).reverse)) hC on hP hS⟩ rfl (x_len hn) hl.2.1 (x_stk hst) (x_rm hcat) hd (x_cs hg0 hmono hr) (l := l) (e := e) (below := below) (meth := meth) (locs := locs) (cells := h.1 - h0.1) (slots := h.2.1 - h0.2.1) (p := p) (R := R)
  exact xg_back hg0 hmono hr2 hS hl kk
theorem xg_c3 (hC : xCtx T B D Ns AO Ts p s m args meth c mt.1 cc mL) (on : xOKn Ns) (og : ∀ w ∈ Ts, (w.onTables && w.keeps) = true ∨ ∃ ty, w = .arrayClass ty) (hg0 : h0.1 ≤ h.1 ∧ h0.2.1 ≤ h.2.1) {d ci : Nat} {z : xR} {mt' : xMt} {a : Nat} {rest : List Value} (m2 : xOKm Ts mt') (hroom : d + 1 ≤ R.frames ∧ 8 + (mt'.2.2.1 + 11) + d * 60 ≤ R.locals) (hmono : h.1 ≤ z.2.1 ∧ h.2.1 ≤ z.2.2.1) (hr : z.2.1 - h0.1 ≤ R.cells ∧ z.2.2.1 - h0.2.1 ≤ R.slots) (hn : mt'.2.2.2.2 ≤ st.length) (hcat : xcat rest ≤ 8) (hst : st.drop mt'.2.2.2.2 = .ref a :: rest) (i1 : mt'.1.name = "<init>") (i2 : Cond.instanceMethod mt'.1 ∈ Ts) (i3 : mt'.2.2.2.1 = none) {host : String} (hlk : Cond.methodLinkNest mt.1.cls idx mt'.1 host ∈ Ns) (hd : decode cc pc = .ok (.invokespecial idx, 3)) (hMet : Met l mt'.1 (Cond.code mt'.1 mt'.2.1 mt'.2.2.1 mt'.2.2.2.1 :: Ts) { frames := d, cells := z.2.1 - h.1, slots := z.2.2.1 - h.2.1, locals := d * 60 } (xPc T B D Ns AO (.ref a :: (st.take mt'.2.2.2.2).reverse) h) (xQc T B D z) (z.2.1 - h.1) (z.2.2.1 - h.2.1) (fun q => B.1 ≤ q))
    (kk : xG T B D mL h0 p l e R s m args below meth c Q (pc + 3, L, z.1.toList ++ rest, z.2)) : xG T B D mL h0 p l e R s m args below meth c Q (pc, L, st, h) := by
  have hC2 := hC
  obtain ⟨hx, hb, hml, hown, hts, hE, hX, hbl, hbs, hin⟩ := hC2
  obtain ⟨n1, n2, n3, n4, n5⟩ := m2
  intro H locs ls hP hS hl
  rw [i3] at hMet n2
  have hr2 := va_runIN (host := host) (b := B.1 + a) (As := ((st.take mt'.2.2.2.2).reverse).map (xtr B)) (rest := rest.map (xtr B)) (g := F0 m pc ls (st.map (xtr B))) ⟨hx, hb, hml, hown, hts⟩ hMet ⟨va_cnB mt'.2.2.2.2 hts (x_good og n2) rfl rfl rfl (hE.2.1 _ hlk) (hts _ n3) n4 hroom, i1, hts _ i2⟩ ⟨xPc_blind on, x_pre (as := (.ref a :: (st.take mt'.2.2.2.2).reverse)) hC on hP hS⟩ rfl (x_len hn) hl.2.1 (x_stk hst) (x_rm hcat) hd (x_cs hg0 hmono hr) (l := l) (e := e) (below := below) (meth := meth) (locs := locs) (cells := h.1 - h0.1) (slots := h.2.1 - h0.2.1) (p := p) (R := R)
  exact xg_back hg0 hmono hr2 hS hl kk
theorem xg_c4 (hC : xCtx T B D Ns AO Ts p s m args meth c mt.1 cc mL) (on : xOKn Ns) (og : ∀ w ∈ Ts, (w.onTables && w.keeps) = true ∨ ∃ ty, w = .arrayClass ty) (hg0 : h0.1 ≤ h.1 ∧ h0.2.1 ≤ h.2.1) {d ci : Nat} {z : xR} {mt' : xMt} (m2 : xOKm Ts mt') (hroom : d + 1 ≤ R.frames ∧ 8 + (mt'.2.2.1 + 11) + d * 60 ≤ R.locals) (hmono : h.1 ≤ z.2.1 ∧ h.2.1 ≤ z.2.2.1) (hr : z.2.1 - h0.1 ≤ R.cells ∧ z.2.2.1 - h0.2.1 ≤ R.slots) (hn : mt'.2.2.2.2 ≤ st.length) (hcat : xcat (st.drop mt'.2.2.2.2) ≤ 8) (i1 : Cond.static mt'.1 ∈ Ts) (hlk : Cond.methodLink mt.1.cls idx mt'.1 ∈ Ts) (hd : decode cc pc = .ok (.invokestatic idx, 3)) (hMet : Met l mt'.1 (Cond.code mt'.1 mt'.2.1 mt'.2.2.1 mt'.2.2.2.1 :: Ts) { frames := d, cells := z.2.1 - h.1, slots := z.2.2.1 - h.2.1, locals := d * 60 } (xPc T B D Ns AO ((st.take mt'.2.2.2.2).reverse) h) (xQc T B D z) (z.2.1 - h.1) (z.2.2.1 - h.2.1) (fun q => B.1 ≤ q))
    (kk : xG T B D mL h0 p l e R s m args below meth c Q (pc + 3, L, z.1.toList ++ st.drop mt'.2.2.2.2, z.2)) : xG T B D mL h0 p l e R s m args below meth c Q (pc, L, st, h) := by
  have hC2 := hC
  obtain ⟨hx, hb, hml, hown, hts, hE, hX, hbl, hbs, hin⟩ := hC2
  obtain ⟨n1, n2, n3, n4, n5⟩ := m2
  intro H locs ls hP hS hl
  have hr2 := va_runS (As := ((st.take mt'.2.2.2.2).reverse).map (xtr B)) (rest := (st.drop mt'.2.2.2.2).map (xtr B)) (g := F0 m pc ls (st.map (xtr B))) ⟨hx, hb, hml, hown, hts⟩ hMet ⟨callB_of mt'.2.2.2.2 hts (x_good og n2) rfl rfl rfl (hts _ n3) (hts _ hlk) n4 hroom, hts _ i1⟩ ⟨xPc_blind on, x_pre (as := ((st.take mt'.2.2.2.2).reverse)) hC on hP hS⟩ rfl (x_len hn) hl.2.1 (x_split _ st) (x_rm hcat) hd (x_cs hg0 hmono hr) (l := l) (e := e) (below := below) (meth := meth) (locs := locs) (cells := h.1 - h0.1) (slots := h.2.1 - h0.2.1) (p := p) (R := R)
  exact xg_back hg0 hmono hr2 hS hl kk
theorem xg_c5 (hC : xCtx T B D Ns AO Ts p s m args meth c mt.1 cc mL) (on : xOKn Ns) (og : ∀ w ∈ Ts, (w.onTables && w.keeps) = true ∨ ∃ ty, w = .arrayClass ty) (hg0 : h0.1 ≤ h.1 ∧ h0.2.1 ≤ h.2.1) {d ci : Nat} {z : xR} {mt' : xMt} (m2 : xOKm Ts mt') (hroom : d + 1 ≤ R.frames ∧ 8 + (mt'.2.2.1 + 11) + d * 60 ≤ R.locals) (hmono : h.1 ≤ z.2.1 ∧ h.2.1 ≤ z.2.2.1) (hr : z.2.1 - h0.1 ≤ R.cells ∧ z.2.2.1 - h0.2.1 ≤ R.slots) (hn : mt'.2.2.2.2 ≤ st.length) (hcat : xcat (st.drop mt'.2.2.2.2) ≤ 8) (i1 : Cond.static mt'.1 ∈ Ts) {host : String} (hlk : Cond.methodLinkNest mt.1.cls idx mt'.1 host ∈ Ns) (hd : decode cc pc = .ok (.invokestatic idx, 3)) (hMet : Met l mt'.1 (Cond.code mt'.1 mt'.2.1 mt'.2.2.1 mt'.2.2.2.1 :: Ts) { frames := d, cells := z.2.1 - h.1, slots := z.2.2.1 - h.2.1, locals := d * 60 } (xPc T B D Ns AO ((st.take mt'.2.2.2.2).reverse) h) (xQc T B D z) (z.2.1 - h.1) (z.2.2.1 - h.2.1) (fun q => B.1 ≤ q))
    (kk : xG T B D mL h0 p l e R s m args below meth c Q (pc + 3, L, z.1.toList ++ st.drop mt'.2.2.2.2, z.2)) : xG T B D mL h0 p l e R s m args below meth c Q (pc, L, st, h) := by
  have hC2 := hC
  obtain ⟨hx, hb, hml, hown, hts, hE, hX, hbl, hbs, hin⟩ := hC2
  obtain ⟨n1, n2, n3, n4, n5⟩ := m2
  intro H locs ls hP hS hl
  have hr2 := va_runSN (host := host) (As := ((st.take mt'.2.2.2.2).reverse).map (xtr B)) (rest := (st.drop mt'.2.2.2.2).map (xtr B)) (g := F0 m pc ls (st.map (xtr B))) ⟨hx, hb, hml, hown, hts⟩ hMet ⟨va_cnB mt'.2.2.2.2 hts (x_good og n2) rfl rfl rfl (hE.2.1 _ hlk) (hts _ n3) n4 hroom, hts _ i1, trivial⟩ ⟨xPc_blind on, x_pre (as := ((st.take mt'.2.2.2.2).reverse)) hC on hP hS⟩ rfl (x_len hn) hl.2.1 (x_split _ st) (x_rm hcat) hd (x_cs hg0 hmono hr) (l := l) (e := e) (below := below) (meth := meth) (locs := locs) (cells := h.1 - h0.1) (slots := h.2.1 - h0.2.1) (p := p) (R := R)
  exact xg_back hg0 hmono hr2 hS hl kk
theorem xg_c6 (hC : xCtx T B D Ns AO Ts p s m args meth c mt.1 cc mL) (on : xOKn Ns) (og : ∀ w ∈ Ts, (w.onTables && w.keeps) = true ∨ ∃ ty, w = .arrayClass ty) (hg0 : h0.1 ≤ h.1 ∧ h0.2.1 ≤ h.2.1) {d : Nat} {z : xR} {mt' : xMt} {a : Nat} {rest : List Value} (m2 : xOKm Ts mt') (hroom : d + 1 ≤ R.frames ∧ 8 + (mt'.2.2.1 + 11) + d * 60 ≤ R.locals) (hmono : h.1 ≤ z.2.1 ∧ h.2.1 ≤ z.2.2.1) (hr : z.2.1 - h0.1 ≤ R.cells ∧ z.2.2.1 - h0.2.1 ≤ R.slots) (hn : mt'.2.2.2.2 ≤ st.length) (hcat : xcat rest ≤ 8) (hst : st.drop mt'.2.2.2.2 = .retAddr (a + 1) :: rest) (ha : a < (xtQ T).length) (i1 : Cond.instanceMethod mt'.1 ∈ Ts) (i2 : Cond.selects mt'.1.cls mt'.1 mt'.1 ∈ Ts) (i3 : mt'.1.cls = "java/lang/String") (hlk : Cond.methodLink mt.1.cls idx mt'.1 ∈ Ts) (hd : decode cc pc = .ok (.invokevirtual idx, 3)) (hMet : Met l mt'.1 (Cond.code mt'.1 mt'.2.1 mt'.2.2.1 mt'.2.2.2.1 :: Ts) { frames := d, cells := z.2.1 - h.1, slots := z.2.2.1 - h.2.1, locals := d * 60 } (xPc T B D Ns AO (.retAddr (a + 1) :: (st.take mt'.2.2.2.2).reverse) h) (xQc T B D z) (z.2.1 - h.1) (z.2.2.1 - h.2.1) (fun q => B.1 ≤ q))
    (kk : xG T B D mL h0 p l e R s m args below meth c Q (pc + 3, L, z.1.toList ++ rest, z.2)) : xG T B D mL h0 p l e R s m args below meth c Q (pc, L, st, h) := by
  have hC2 := hC
  obtain ⟨hx, hb, hml, hown, hts, hE, hX, hbl, hbs, hin⟩ := hC2
  obtain ⟨n1, n2, n3, n4, n5⟩ := m2
  intro H locs ls hP hS hl
  obtain ⟨⟨adK, adV, h1, h2⟩, -, -⟩ := hX.2
  have e1 : xtr B (.retAddr (a + 1)) = .ref (adK a) := by
    show va_rf (B.2.2.2 a) = _
    rw [(h2 a ha).1]
    rfl
  have hr2 := va_runV (C := mt'.1.cls) (b := adK a) (As := ((st.take mt'.2.2.2.2).reverse).map (xtr B)) (rest := rest.map (xtr B)) (g := F0 m pc ls (st.map (xtr B))) ⟨hx, hb, hml, hown, hts⟩ hMet ⟨callB_of mt'.2.2.2.2 hts (x_good og n2) rfl rfl rfl (hts _ n3) (hts _ hlk) n4 hroom, hts _ i1, hts _ i2⟩ ⟨xPc_blind on, (by rw [i3]; exact vk_recv h1 ha hS), (by have h9 := x_pre (as := (.retAddr (a + 1) :: (st.take mt'.2.2.2.2).reverse)) hC on hP hS; rw [List.map_cons, e1] at h9; exact h9)⟩ rfl (x_len hn) hl.2.1 (x_stkT hst e1) (x_rm hcat) hd (x_cs hg0 hmono hr) (l := l) (e := e) (below := below) (meth := meth) (locs := locs) (cells := h.1 - h0.1) (slots := h.2.1 - h0.2.1) (p := p) (R := R)
  exact xg_back hg0 hmono hr2 hS hl kk
end XSOUND
