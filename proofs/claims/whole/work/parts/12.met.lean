section XMET
variable {T : xT} {B : xB} {D : va_G} {Ts Ns : List Cond} {AO : List String}
theorem xDo_ret {mi : Nat} {ins : Jvm.ClassFile.Instr} {len pc : Nat} {L st : List Value} {h : xH} {z : xR} (hs : xDo T mi ins len pc L st h = some (.inr (.inr z))) :
    len = 1 ∧ ((ins = .ireturn ∧ xret T mi st h = some (.inr (.inr z))) ∨ (ins = .areturn ∧ xaret T mi st h = some (.inr (.inr z))) ∨ (ins = .return_ ∧ xvret T mi st h = some (.inr (.inr z)))) := by
  unfold xDo at hs
  split at hs <;> (try (split at hs)) <;> (try (cases hs; done)) <;>
    (try (simp only [xpush, xpush?, xload, xstore, xinc, xbin, xdiv, xi2b, xi2c, xldc, xgst, xtld, xcallT, xl2i, xlong, xlshr, xdup, xdup2, xpop, xif, xicmp, xacmp, xnul, xto, xtsw, xlsw, xget, xput, xmk, xmka, xlen, xsload, xaload, xiast, xbast, xaast, xvirt, xspec, xstat, xcallI, xcallS, xobj, xmath, xbr] at hs; (repeat' split at hs) <;> cases hs; done))
  · rename_i hl
    exact ⟨hl, Or.inl ⟨rfl, hs⟩⟩
  · rename_i hl
    exact ⟨hl, Or.inr (Or.inl ⟨rfl, hs⟩)⟩
  · rename_i hl
    exact ⟨hl, Or.inr (Or.inr ⟨rfl, hs⟩)⟩
theorem xfl_len (B : xB) (as : List Value) : (lg_sl (as.map (xtr B))).length = (xfl as).length := by
  induction as with
  | nil => rfl
  | cons v vs ih =>
    have e1 : lg_sl ((v :: vs).map (xtr B)) = (if (xtr B v).category = 2 then [.val (xtr B v), .second] else [.val (xtr B v)]) ++ lg_sl (vs.map (xtr B)) := by simp [lg_sl]
    have e2 : xfl (v :: vs) = (if v.category = 2 then [v, .float 0] else [v]) ++ xfl vs := by simp [xfl]
    rw [e1, e2, List.length_append, List.length_append, ih, xtr_cat]
    split <;> rfl
theorem xfl_args (B : xB) : ∀ (as : List Value) (k i : Nat) (v : Value), (xfl as)[i]? = some v → v ≠ .float 0 → (k + i, xtr B v) ∈ lv_args k (as.map (xtr B)) := by
  intro as
  induction as with
  | nil => intro k i v h; simp [xfl] at h
  | cons w ws ih =>
    intro k i v h hne
    have e2 : xfl (w :: ws) = (if w.category = 2 then [w, .float 0] else [w]) ++ xfl ws := by simp [xfl]
    rw [e2] at h
    rw [List.map_cons, lv_args, xtr_cat]
    by_cases hc : w.category = 2
    · rw [if_pos hc] at h ⊢
      match i, h with
      | 0, h => cases h; exact List.mem_cons_self
      | 1, h => cases h; exact absurd rfl hne
      | i + 2, h =>
        have := ih (k + 2) i v (by simpa using h) hne
        rw [show k + (i + 2) = k + 2 + i by omega]
        exact List.mem_cons_of_mem _ this
    · rw [if_neg hc] at h ⊢
      match i, h with
      | 0, h => cases h; exact List.mem_cons_self
      | i + 1, h =>
        have := ih (k + 1) i v (by simpa using h) hne
        rw [show k + (i + 1) = k + 1 + i by omega]
        exact List.mem_cons_of_mem _ this
theorem xloc_rel {as : List Value} {n : Nat} (hn : (xfl as).length ≤ n) : xLr B ((lg_sl (as.map (xtr B)) ++ List.replicate (n - (lg_sl (as.map (xtr B))).length) Slot.unset).toArray) n (xloc as n) := by
  have hl := lv_entry (as.map (xtr B)) (n := n) (by rw [xfl_len]; exact hn)
  refine ⟨by simp [xloc]; omega, hl.1, hl.2.1, ?_⟩
  rintro ⟨i, w⟩ hq
  obtain ⟨v, h1, h2, rfl⟩ := xpl_mem.mp hq
  unfold xloc at h1
  by_cases hi : i < (xfl as).length
  · rw [List.getElem?_append_left hi] at h1
    have h3 := xfl_args B as 0 i v h1 h2
    rw [Nat.zero_add] at h3
    exact hl.2.2 _ h3
  · rw [List.getElem?_append_right (by omega)] at h1
    have h4 := List.mem_of_getElem? h1
    exact absurd (List.eq_of_mem_replicate h4) h2
theorem xsound (hO : xOK T Ts Ns AO) (l : Launch) : ∀ (d mi : Nat) (as : List Value) (h : xH) (z : xR), xCall T d mi as h z → ∀ mt, xtM T mi = some mt → xOKm Ts mt → Met l mt.1 (Cond.code mt.1 mt.2.1 mt.2.2.1 mt.2.2.2.1 :: Ts) { frames := d, cells := z.2.1 - h.1, slots := z.2.2.1 - h.2.1, locals := d * 60 } (xPc T B D Ns AO as h) (xQc T B D z) (z.2.1 - h.1) (z.2.2.1 - h.2.1) (fun q => B.1 ≤ q) := by
  intro d
  induction d with
  | zero => exact fun _ _ _ _ h => h.elim
  | succ d ih =>
    intro mi as h z hc mt hM hm
    obtain ⟨mt2, hM2, hfl, n, hrun⟩ := hc
    have hmt : mt2 = mt := Option.some.inj (hM2.symm.trans hM)
    subst hmt
    refine Met.ofW (cc := mt2.2.1) (maxL := mt2.2.2.1) (ret := mt2.2.2.2.1) hm.1 rfl ?_
    intro p e s m args below meth c s₁ Bd hml hv
    obtain ⟨rfl, hP, hE, hX, hbl⟩ := hv
    have hts : ∀ w ∈ Ts, w.before (as.map (xtr B)).toArray s = true := fun w hw => atoms_spec (ws := Cond.code mt2.1 mt2.2.1 mt2.2.2.1 mt2.2.2.2.1 :: Ts) Bd.pre w (List.mem_cons_of_mem _ hw)
    have hbs : B.1 ≤ s.heap.size := by rw [hP.1]; exact Nat.le_add_right _ _
    have hC : xCtx T B D Ns AO Ts p s m (as.map (xtr B)).toArray meth c mt2.1 mt2.2.1 mt2.2.2.1 := ⟨Bd.exec, Bd.bytes, hml, findClass_of_methodNamed Bd.named, hts, hE, hX, hbl, hbs, fun hn => (name_of_methodNamed Bd.named Bd.method).1.trans hn⟩
    rw [lg_entry_eq]
    have hrt := Bd.returns
    have hlk := Bd.notSynchronized
    have hx := Bd.exec
    have hb := Bd.bytes
    have hG := xg_run (l := l) (e := e) (below := below) (R := { frames := d + 1, cells := z.2.1 - h.1, slots := z.2.2.1 - h.2.1, locals := (d + 1) * 60 }) (h0 := h) (Q := MQ below (xQc T B D z) (as.map (xtr B)).toArray s (z.2.1 - h.1) (z.2.2.1 - h.2.1) (fun q => B.1 ≤ q)) hC hM hO (d := d) (z := z) ⟨Nat.le_refl _, Nat.le_refl _⟩ ⟨Nat.le_refl _, Nat.le_refl _⟩ ih ?_ n _ ⟨Nat.le_refl _, Nat.le_refl _⟩ hrun
    · have h1 := hG s.heap [] _ hP va_S.rf (xloc_rel hfl)
      dsimp only at h1
      rw [Nat.sub_self, Nat.sub_self] at h1
      exact h1
    · intro pc L st ins len hd hs
      obtain ⟨rfl, hcase⟩ := xDo_ret hs
      clear hs
      intro H locs ls hP1 hS hl
      have hq : ∀ (v : Option Value), v = z.1.map (xtr B) → ∀ t : State, t.heap = H → s.WarmedH t.vm → xQc T B D z (as.map (xtr B)).toArray s (.returned v) t := by
        intro v hv t ht _
        subst hv
        exact ⟨rfl, by rw [ht]; exact hP1, hS.F ht⟩
      rcases hcase with ⟨rfl, hs⟩ | ⟨rfl, hs⟩ | ⟨rfl, hs⟩
      · unfold xret at hs
        split at hs
        · rename_i y cc mL ty k x hM3
          split at hs
          · rename_i hn
            have hz : some (Value.int x) = z.1 := congrArg Prod.fst (Sum.inr.inj (Sum.inr.inj (Option.some.inj hs)))
            have e2 := hM.symm.trans hM3
            cases e2
            exact W.zret hx hb hrt hn (hq _ (by rw [← hz]; rfl)) hS.2.2 hd hlk
          · cases hs
        · cases hs
      · unfold xaret at hs
        split at hs
        · rename_i y cc mL nm k v hM3
          split at hs
          · rename_i hn
            have hz : some v = z.1 := congrArg Prod.fst (Sum.inr.inj (Sum.inr.inj (Option.some.inj hs)))
            have e2 := hM.symm.trans hM3
            cases e2
            exact W.aret hx hb hrt (Or.inl ⟨_, rfl⟩) (xtr_ref v hn).2 (hq _ (by rw [← hz]; rfl)) hS.2.2 hd hlk
          · cases hs
        · cases hs
      · unfold xvret at hs
        split at hs
        · rename_i y cc mL k hM3
          have hz : none = z.1 := congrArg Prod.fst (Sum.inr.inj (Sum.inr.inj (Option.some.inj hs)))
          have e2 := hM.symm.trans hM3
          cases e2
          exact W.vret hx hb hrt (hq _ (by rw [← hz]; rfl)) hS.2.2 hd hlk
        · cases hs
end XMET
