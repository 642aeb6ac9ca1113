section XRUN
variable {p : Program} {l : Launch} {e : Env} {R : Room} {s : State} {m : MethodId} {args : Array Value} {below : List Frame} {meth : Method} {c : Code} {Q : State → Prop}
variable {cc : ByteArray} {mi : Nat} {T : xT} {B : xB} {D : va_G} {mL : Nat} {h0 : xH} {Ts Ns : List Cond} {AO : List String} {mt : xMt}
/-- which call a step makes -/
theorem xDo_call {ins : Jvm.ClassFile.Instr} {len pc : Nat} {L st : List Value} {h : xH} {mj : Nat} {as : List Value} {q' : xCfg} (hs : xDo T mi ins len pc L st h = some (.inr (.inl (mj, as, q')))) :
    len = 3 ∧ ∃ idx kd ci, xtV T mi idx = some (kd, mj, ci) ∧ ((kd = 9 ∧ ins = .invokevirtual idx ∧ xcallT T mj pc L st h = some (.inr (.inl (mj, as, q')))) ∨ (kd < 2 ∧ ins = .invokevirtual idx ∧ xcallI T mj ci pc L st h = some (.inr (.inl (mj, as, q')))) ∨ ((kd = 2 ∨ kd = 3) ∧ ins = .invokespecial idx ∧ xcallI T mj ci pc L st h = some (.inr (.inl (mj, as, q')))) ∨ ((kd = 4 ∨ kd = 5) ∧ ins = .invokestatic idx ∧ xcallS T mj pc L st h = some (.inr (.inl (mj, as, q'))))) := by
  have hI : ∀ mk ci, xcallI T mk ci pc L st h = some (.inr (.inl (mj, as, q'))) → mk = mj := by
    intro mk ci hs
    unfold xcallI at hs
    repeat' split at hs
    all_goals (cases hs; try rfl)
  have hSt : ∀ mk, xcallS T mk pc L st h = some (.inr (.inl (mj, as, q'))) → mk = mj := by
    intro mk hs
    unfold xcallS at hs
    repeat' split at hs
    all_goals (cases hs; try rfl)
  have hT9 : ∀ mk, xcallT T mk pc L st h = some (.inr (.inl (mj, as, q'))) → mk = mj := by
    intro mk hs
    unfold xcallT at hs
    repeat' split at hs
    all_goals (cases hs; try rfl)
  unfold xDo at hs
  split at hs <;> (try (split at hs)) <;> (try (cases hs; done)) <;>
    (try (simp only [xpush, xpush?, xload, xstore, xinc, xbin, xdiv, xi2b, xi2c, xldc, xgst, xtld, xl2i, xlong, xlshr, xdup, xdup2, xpop, xif, xicmp, xacmp, xnul, xto, xtsw, xlsw, xget, xput, xmk, xmka, xlen, xsload, xaload, xiast, xbast, xaast, xret, xaret, xvret, xbr] at hs; (repeat' split at hs) <;> cases hs; done))
  · rename_i i hl
    refine ⟨hl, ?_⟩
    unfold xvirt at hs
    split at hs
    · rename_i kd mk ci hv
      split at hs
      · rename_i hk
        have e1 := hI mk ci hs
        subst e1
        exact ⟨i, kd, ci, hv, Or.inr (Or.inl ⟨hk, rfl, hs⟩)⟩
      · split at hs
        · rename_i hk
          have e1 := hT9 mk hs
          subst e1
          exact ⟨i, kd, ci, hv, Or.inl ⟨hk, rfl, hs⟩⟩
        · cases hs
    · cases hs
  · rename_i i hl
    refine ⟨hl, ?_⟩
    unfold xspec at hs
    split at hs
    · rename_i kd mk ci hv
      split at hs
      · unfold xobj at hs
        repeat' split at hs
        all_goals cases hs
      · split at hs
        · rename_i hk
          have e1 := hI mk ci hs
          subst e1
          exact ⟨i, kd, ci, hv, Or.inr (Or.inr (Or.inl ⟨hk, rfl, hs⟩))⟩
        · cases hs
    · cases hs
  · rename_i i hl
    refine ⟨hl, ?_⟩
    unfold xstat at hs
    split at hs
    · rename_i kd mk ci hv
      split at hs
      · unfold xmath at hs
        repeat' split at hs
        all_goals cases hs
      · split at hs
        · unfold xmath at hs
          repeat' split at hs
          all_goals cases hs
        · split at hs
          · rename_i hk
            have e1 := hSt mk hs
            subst e1
            exact ⟨i, kd, ci, hv, Or.inr (Or.inr (Or.inr ⟨hk, rfl, hs⟩))⟩
          · cases hs
    · cases hs
theorem xg_call {pc : Nat} {h : xH} {L st : List Value} {q' : xCfg} (hC : xCtx T B D Ns AO Ts p s m args meth c mt.1 cc mL) (hM : xtM T mi = some mt) (hO : xOK T Ts Ns AO) (hg0 : h0.1 ≤ h.1 ∧ h0.2.1 ≤ h.2.1) {d mj len : Nat} {as : List Value} {ins : Jvm.ClassFile.Instr} {z : xR} (hd : decode cc pc = .ok (ins, len)) (hs : xDo T mi ins len pc L st h = some (.inr (.inl (mj, as, q'))))
    (hR : d + 1 ≤ R.frames ∧ (d + 1) * 60 ≤ R.locals) (hmono : h.1 ≤ z.2.1 ∧ h.2.1 ≤ z.2.2.1) (hr : z.2.1 - h0.1 ≤ R.cells ∧ z.2.2.1 - h0.2.1 ≤ R.slots)
    (hK : ∀ mt', xtM T mj = some mt' → xOKm Ts mt' → Met l mt'.1 (Cond.code mt'.1 mt'.2.1 mt'.2.2.1 mt'.2.2.2.1 :: Ts) { frames := d, cells := z.2.1 - h.1, slots := z.2.2.1 - h.2.1, locals := d * 60 } (xPc T B D Ns AO as h) (xQc T B D z) (z.2.1 - h.1) (z.2.2.1 - h.2.1) (fun q => B.1 ≤ q))
    (kk : xG T B D mL h0 p l e R s m args below meth c Q (q'.1, q'.2.1, z.1.toList ++ q'.2.2.1, z.2)) : xG T B D mL h0 p l e R s m args below meth c Q (pc, L, st, h) := by
  obtain ⟨hl3, idx, kd, ci, hv, hcase⟩ := xDo_call hs
  clear hs
  subst hl3
  obtain ⟨oi, of, ol, oc, oa, op, oe, oj, ov, on, ot, og⟩ := hO
  obtain ⟨ov, -, -, -, ov9⟩ := ov mi mt hM idx kd mj ci hv
  rcases hcase with ⟨hk9, rfl, hs⟩ | hcase
  · obtain ⟨mt', m1, m2, i1, i2, i3, hlk⟩ := ov9 hk9
    have hMet := hK mt' m1 m2
    have hroom : d + 1 ≤ R.frames ∧ 8 + (mt'.2.2.1 + 11) + d * 60 ≤ R.locals := by
      have := m2.2.2.2.2
      omega
    unfold xcallT at hs
    rw [m1] at hs
    dsimp only at hs
    split at hs
    · rename_i a rest hst
      split at hs
      · rename_i hcnd
        cases hs
        exact xg_c6 hC on og hg0 m2 hroom hmono hr hcnd.1.1 hcnd.1.2 hst hcnd.2 i1 i2 i3 hlk hd hMet kk
      · cases hs
    · cases hs
  have hk6 : kd < 6 := by
    rcases hcase with ⟨h1, -⟩ | ⟨h1, -⟩ | ⟨h1, -⟩ <;> omega
  obtain ⟨mt', m1, m2, m3, m4, m5, m6, m7⟩ := ov hk6
  have hMet := hK mt' m1 m2
  have hroom : d + 1 ≤ R.frames ∧ 8 + (mt'.2.2.1 + 11) + d * 60 ≤ R.locals := by
    have := m2.2.2.2.2
    omega
  have hI : xcallI T mj ci pc L st h = some (.inr (.inl (mj, as, q'))) → ∃ (a : Nat) (rest : List Value), st.drop mt'.2.2.2.2 = .ref a :: rest ∧ ((mt'.2.2.2.2 ≤ st.length ∧ xcat rest ≤ 8) ∧ (a < h.1 ∧ (h.2.2 a).1 = ci ∧ ci < 12)) ∧ as = .ref a :: (st.take mt'.2.2.2.2).reverse ∧ q' = (pc + 3, L, rest, h) := by
    intro hs
    unfold xcallI at hs
    rw [m1] at hs
    dsimp only at hs
    split at hs
    · rename_i a rest hst
      split at hs
      · rename_i hcnd
        cases hs
        exact ⟨a, rest, hst, hcnd, rfl, rfl⟩
      · cases hs
    · cases hs
  rcases hcase with ⟨h1, rfl, hs⟩ | ⟨h1, rfl, hs⟩ | ⟨h1, rfl, hs⟩
  · obtain ⟨a, rest, hst, ⟨⟨hn, hcat⟩, ha, hci, hci2⟩, rfl, rfl⟩ := hI hs
    obtain ⟨i1, i2, F, N, i3⟩ := m3 h1
    rcases (show kd = 0 ∨ kd = 1 by omega) with e1 | e1
    · exact xg_c0 hC on og hg0 m2 hroom hmono hr hn hcat hst ha hci hci2 i1 i2 i3 (m6 (Or.inl e1)) hd hMet kk
    · obtain ⟨host, m7⟩ := m7 (Or.inl e1)
      exact xg_c1 hC on og hg0 m2 hroom hmono hr hn hcat hst ha hci hci2 i1 i2 i3 m7 hd hMet kk
  · obtain ⟨a, rest, hst, ⟨⟨hn, hcat⟩, ha, hci, hci2⟩, rfl, rfl⟩ := hI hs
    obtain ⟨i1, i2, i3⟩ := m4 h1
    rcases h1 with e1 | e1
    · exact xg_c2 (ci := 0) hC on og hg0 m2 hroom hmono hr hn hcat hst i1 i2 i3 (m6 (Or.inr (Or.inl e1))) hd hMet kk
    · obtain ⟨host, m7⟩ := m7 (Or.inr (Or.inl e1))
      exact xg_c3 (ci := 0) hC on og hg0 m2 hroom hmono hr hn hcat hst i1 i2 i3 m7 hd hMet kk
  · have i1 := m5 h1
    unfold xcallS at hs
    rw [m1] at hs
    dsimp only at hs
    split at hs
    · rename_i hcnd
      obtain ⟨hn, hcat⟩ := hcnd
      cases hs
      rcases h1 with e1 | e1
      · exact xg_c4 (ci := 0) hC on og hg0 m2 hroom hmono hr hn hcat i1 (m6 (Or.inr (Or.inr e1))) hd hMet kk
      · obtain ⟨host, m7⟩ := m7 (Or.inr (Or.inr e1))
        exact xg_c5 (ci := 0) hC on og hg0 m2 hroom hmono hr hn hcat i1 m7 hd hMet kk
    · cases hs
/-- a whole run of a method's body -/
theorem xg_run (hC : xCtx T B D Ns AO Ts p s m args meth c mt.1 mt.2.1 mL) (hM : xtM T mi = some mt) (hO : xOK T Ts Ns AO) {d : Nat} {z : xR} (hR : d + 1 ≤ R.frames ∧ (d + 1) * 60 ≤ R.locals) (hr : z.2.1 - h0.1 ≤ R.cells ∧ z.2.2.1 - h0.2.1 ≤ R.slots)
    (hK : ∀ (mj : Nat) (as : List Value) (h : xH) (y : xR), xCall T d mj as h y → ∀ mt', xtM T mj = some mt' → xOKm Ts mt' → Met l mt'.1 (Cond.code mt'.1 mt'.2.1 mt'.2.2.1 mt'.2.2.2.1 :: Ts) { frames := d, cells := y.2.1 - h.1, slots := y.2.2.1 - h.2.1, locals := d * 60 } (xPc T B D Ns AO as h) (xQc T B D y) (y.2.1 - h.1) (y.2.2.1 - h.2.1) (fun q => B.1 ≤ q))
    (hret : ∀ (pc : Nat) (L st : List Value) (ins : Jvm.ClassFile.Instr) (len : Nat), decode mt.2.1 pc = .ok (ins, len) → xDo T mi ins len pc L st z.2 = some (.inr (.inr z)) → xG T B D mL h0 p l e R s m args below meth c Q (pc, L, st, z.2)) :
    ∀ (n : Nat) (q : xCfg), h0.1 ≤ q.2.2.2.1 ∧ h0.2.1 ≤ q.2.2.2.2.1 → xRun T (xCall T d) mi n q z → xG T B D mL h0 p l e R s m args below meth c Q q := by
  intro n
  induction n with
  | zero => exact fun q _ h => h.elim
  | succ n ih =>
    intro q hg0 h
    have hmz := xRun_mono (xCall_mono d) (n + 1) q z h
    unfold xRun at h
    unfold xStep at h
    cases hi : xtI T mi q.1 with
    | none => rw [hi] at h; exact h.elim
    | some il =>
      obtain ⟨ins, len⟩ := il
      rw [hi] at h
      dsimp only at h
      have hd := hO.1 mi mt hM q.1 ins len hi
      obtain ⟨pc, L, st, hh⟩ := q
      dsimp only at h hg0 hd hmz
      revert h
      generalize ho : xDo T mi ins len pc L st hh = o
      intro h
      rcases o with _ | q' | ⟨mj, as, q'⟩ | z'
      · exact h.elim
      · have h1 : hh.1 ≤ q'.2.2.2.1 ∧ hh.2.1 ≤ q'.2.2.2.2.1 := xDo_mono ho
        have hm := xRun_mono (xCall_mono d) n q' z h
        exact xg_step hC hM hO hg0 ⟨by omega, by omega⟩ hd ho ⟨by omega, by omega⟩ (ih q' ⟨by omega, by omega⟩ h)
      · have h1 : q'.2.2.2 = hh := xDo_mono ho
        obtain ⟨y, hy, h⟩ := h
        rw [h1] at hy
        have h2 := xCall_mono d mj as hh y hy
        have hm := xRun_mono (xCall_mono d) n _ z h
        dsimp only at hm
        exact xg_call hC hM hO hg0 hd ho hR h2 ⟨by omega, by omega⟩ (hK mj as hh y hy) (ih _ ⟨by dsimp only; omega, by dsimp only; omega⟩ h)
      · have h1 : z'.2 = hh := xDo_mono ho
        have h2 : z' = z := h
        subst h2
        rw [← h1] at ho ⊢
        exact hret pc L st ins len hd ho
end XRUN
