def xrv (o : Option Nat) : Value := match o with
  | some a => .ref a
  | none => .null
def xov (v : Value) : Option (Option Nat) := match v with
  | .ref a => some (some a)
  | .null => some none
  | _ => none
theorem xov_eq {v : Value} {o : Option Nat} (h : xov v = some o) : v = xrv o := by
  unfold xov at h
  split at h <;> cases h <;> rfl
theorem xrv_kind (o : Option Nat) : xkind 1 (xrv o) = true ∧ xkind 3 (xrv o) = true ∧ (xrv o).category = 1 := by
  cases o <;> exact ⟨rfl, rfl, rfl⟩
/-- what a field, an array's place holds; what comes of a store -/
def xgV (h : xH) (o : Option Nat) (ci k : Nat) : Option Value := match o with
  | some a => if a < h.1 ∧ (h.2.2 a).1 = ci ∧ ci < 12 then (h.2.2 a).2[k]? else none
  | none => none
def xiv (v : Value) : Option Int32 := match v with
  | .int x => some x
  | _ => none
theorem xiv_eq {v : Value} {x : Int32} (h : xiv v = some x) : v = .int x := by
  unfold xiv at h
  split at h <;> cases h <;> rfl
def xgI (h : xH) (o : Option Nat) (ci k : Nat) : Option Int32 := (xgV h o ci k).bind xiv
def xgR (h : xH) (o : Option Nat) (ci k : Nat) : Option (Option Nat) := (xgV h o ci k).bind xov
def xpF (h : xH) (o : Option Nat) (ci k : Nat) (ty : FieldType) (v : Value) : Option xH := match o with
  | some a => if (a < h.1 ∧ (h.2.2 a).1 = ci ∧ ci < 12) ∧ (k < (h.2.2 a).2.length ∧ xfit ty v = true) then some (xset h a (ci, (h.2.2 a).2.set k v)) else none
  | none => none
def xaV (h : xH) (lo hi : Nat) (o : Option Nat) (i : Int32) : Option Value := match o with
  | some a => if a < h.1 ∧ (lo ≤ (h.2.2 a).1 ∧ (h.2.2 a).1 < hi) ∧ xout i (h.2.2 a).2.length = false then (h.2.2 a).2[i.toNatClampNeg]? else none
  | none => none
def xaI (h : xH) (tg : Nat) (o : Option Nat) (i : Int32) : Option Int32 := (xaV h tg (tg + 1) o i).bind xiv
def xaR (h : xH) (o : Option Nat) (i : Int32) : Option (Option Nat) := (xaV h 15 19 o i).bind xov
def xaS (h : xH) (tg : Nat) (f : Int32 → Int32) (o : Option Nat) (i x : Int32) : Option xH := match o with
  | some a => if a < h.1 ∧ (h.2.2 a).1 = tg ∧ xout i (h.2.2 a).2.length = false then some (xset h a (tg, (h.2.2 a).2.set i.toNatClampNeg (.int (f x)))) else none
  | none => none
def xaO (h : xH) (a : Nat) (v : Option Nat) : Bool := match v with
  | some b => decide (b < h.1 ∧ (h.2.2 b).1 = [0, 2, 6, 9].getD ((h.2.2 a).1 - 15) 99)
  | none => true
def xaT (h : xH) (o : Option Nat) (i : Int32) (v : Option Nat) : Option xH := match o with
  | some a => if (a < h.1 ∧ xaO h a v = true) ∧ (15 ≤ (h.2.2 a).1 ∧ (h.2.2 a).1 < 19) ∧ xout i (h.2.2 a).2.length = false then some (xset h a ((h.2.2 a).1, (h.2.2 a).2.set i.toNatClampNeg (xrv v))) else none
  | none => none
def xaN (h : xH) (o : Option Nat) : Option Int32 := match o with
  | some a => if a < h.1 ∧ 12 ≤ (h.2.2 a).1 ∧ (h.2.2 a).1 < 19 then some (Int32.ofNat (h.2.2 a).2.length) else none
  | none => none
def xnA (h : xH) (tg : Nat) (v : Value) (k : Int32) : Option xH := if ¬ k < 0 ∧ k.toNatClampNeg * 8 ≤ 536870912 then some (xnew h (tg, List.replicate k.toNatClampNeg v)) else none
def xsL (xs : List Int32) (i : Int32) : Option Int32 := if xout i xs.length = false then some (xs.getD i.toNatClampNeg 0) else none
theorem x_bind {α β : Type} {a : Option α} {f : α → Option β} {b : β} (h : a.bind f = some b) : ∃ x, a = some x ∧ f x = some b := by
  cases a with
  | none => cases h
  | some x => exact ⟨x, rfl, h⟩
section XSH
variable {T : xT} {d mi pc idx ci k fl len : Nat} {L st : List Value} {h h' : xH} {r : xR} {o o2 : Option Nat} {x y i : Int32}
theorem sh_aload {i' n : Nat} (hi : xtI T mi pc = some (if n = 2 then .aload i' else .aload_n (Fin.ofNat 4 i'), n)) (hn : n = 2 ∨ (n = 1 ∧ i' < 4)) (hl : L[i']? = some (xrv o)) (kk : xEv T d mi (pc + n, L, xrv o :: st, h) r) : xEv T d mi (pc, L, st, h) r := by
  rcases hn with rfl | ⟨rfl, h4⟩
  · refine ev_do hi (q' := (pc + 2, L, xrv o :: st, h)) ?_ kk
    show (if 2 = 2 then xload 1 i' 2 pc L st h else none) = _
    rw [if_pos rfl]
    unfold xload
    rw [hl]
    dsimp only
    rw [if_pos (xrv_kind o).1]
  · refine ev_do hi (q' := (pc + 1, L, xrv o :: st, h)) ?_ kk
    show (if 1 = 1 then xload 1 (Fin.ofNat 4 i' : Fin 4) 1 pc L st h else none) = _
    rw [if_pos rfl]
    unfold xload
    rw [show ((Fin.ofNat 4 i' : Fin 4) : Nat) = i' from Nat.mod_eq_of_lt h4, hl]
    dsimp only
    rw [if_pos (xrv_kind o).1]
theorem sh_astore {i' n : Nat} (hi : xtI T mi pc = some (if n = 2 then .astore i' else .astore_n (Fin.ofNat 4 i'), n)) (hn : n = 2 ∨ (n = 1 ∧ i' < 4)) (hl : xokst L i' = true) (kk : xEv T d mi (pc + n, L.set i' (xrv o), st, h) r) : xEv T d mi (pc, L, xrv o :: st, h) r := by
  rcases hn with rfl | ⟨rfl, h4⟩
  · refine ev_do hi (q' := (pc + 2, L.set i' (xrv o), st, h)) ?_ kk
    show (if 2 = 2 then xstore 1 i' 2 pc L (xrv o :: st) h else none) = _
    rw [if_pos rfl]
    unfold xstore
    dsimp only
    rw [if_pos ⟨(xrv_kind o).1, hl⟩]
  · refine ev_do hi (q' := (pc + 1, L.set i' (xrv o), st, h)) ?_ kk
    show (if 1 = 1 then xstore 1 (Fin.ofNat 4 i' : Fin 4) 1 pc L (xrv o :: st) h else none) = _
    rw [if_pos rfl]
    unfold xstore
    dsimp only
    rw [show ((Fin.ofNat 4 i' : Fin 4) : Nat) = i' from Nat.mod_eq_of_lt h4, if_pos ⟨(xrv_kind o).1, hl⟩]
theorem sh_get {v : Value} (hi : xtI T mi pc = some (.getfield idx, 3)) (hF : xtF T mi idx = some (ci, k, fl)) (e : xgV h o ci k = some v) (kk : xEv T d mi (pc + 3, L, v :: st, h) r) : xEv T d mi (pc, L, xrv o :: st, h) r := by
  cases o with
  | none => cases e
  | some a =>
    unfold xgV at e
    dsimp only at e
    split at e
    · rename_i hc
      exact ev_get hi hF (fs := (h.2.2 a).2) (by rw [← hc.2.1]) hc.1 hc.2.2 e kk
    · cases e
theorem sh_getI (hi : xtI T mi pc = some (.getfield idx, 3)) (hF : xtF T mi idx = some (ci, k, fl)) (e : xgI h o ci k = some x) (kk : xEv T d mi (pc + 3, L, .int x :: st, h) r) : xEv T d mi (pc, L, xrv o :: st, h) r := by
  obtain ⟨v, e1, e2⟩ := x_bind e
  have e3 := xiv_eq e2
  subst e3
  exact sh_get hi hF e1 kk
theorem sh_getR (hi : xtI T mi pc = some (.getfield idx, 3)) (hF : xtF T mi idx = some (ci, k, fl)) (e : xgR h o ci k = some o2) (kk : xEv T d mi (pc + 3, L, xrv o2 :: st, h) r) : xEv T d mi (pc, L, xrv o :: st, h) r := by
  obtain ⟨v, e1, e2⟩ := x_bind e
  have e3 := xov_eq e2
  subst e3
  exact sh_get hi hF e1 kk
theorem sh_put {v : Value} {ty : FieldType} (hi : xtI T mi pc = some (.putfield idx, 3)) (hF : xtF T mi idx = some (ci, k, fl)) (hfl : fl < 3) (hty : (xtD T ci).getD k .int = ty) (e : xpF h o ci k ty v = some h') (kk : xEv T d mi (pc + 3, L, st, h') r) : xEv T d mi (pc, L, v :: xrv o :: st, h) r := by
  cases o with
  | none => cases e
  | some a =>
    subst hty
    unfold xpF at e
    dsimp only at e
    split at e
    · rename_i hc
      cases e
      exact ev_put hi hF (fs := (h.2.2 a).2) (by rw [← hc.1.2.1]) hc.1.1 hc.1.2.2 hc.2.1 hc.2.2 hfl kk
    · cases e
theorem sh_new {fs : List Value} (hi : xtI T mi pc = some (.new idx, 3)) (hC : xtC T mi idx = some ci) (hci : ci < 12) (hfs : (xtD T ci).map defaultValue = fs) (kk : xEv T d mi (pc + 3, L, xrv (some h.1) :: st, xnew h (ci, fs)) r) : xEv T d mi (pc, L, st, h) r := ev_mk hi hC hci hfs kk
theorem sh_aldI {tg : Nat} {ins : Jvm.ClassFile.Instr} (hi : xtI T mi pc = some (ins, 1)) (htg : (ins = .iaload ∧ tg = 13) ∨ (ins = .baload ∧ tg = 12) ∨ (ins = .baload ∧ tg = 14)) (e : xaI h tg o i = some x) (kk : xEv T d mi (pc + 1, L, .int x :: st, h) r) : xEv T d mi (pc, L, .int i :: xrv o :: st, h) r := by
  obtain ⟨v, e1, e2⟩ := x_bind e
  have e3 := xiv_eq e2
  subst e3
  cases o with
  | none => cases e1
  | some a =>
    unfold xaV at e1
    dsimp only at e1
    split at e1
    · rename_i hc
      exact ev_ald hi htg (vs := (h.2.2 a).2) (by rw [show tg = (h.2.2 a).1 by omega]) hc.1 hc.2.2 e1 kk
    · cases e1
theorem sh_aldR (hi : xtI T mi pc = some (.aaload, 1)) (e : xaR h o i = some o2) (kk : xEv T d mi (pc + 1, L, xrv o2 :: st, h) r) : xEv T d mi (pc, L, .int i :: xrv o :: st, h) r := by
  obtain ⟨v, e1, e2⟩ := x_bind e
  have e3 := xov_eq e2
  subst e3
  cases o with
  | none => cases e1
  | some a =>
    unfold xaV at e1
    dsimp only at e1
    split at e1
    · rename_i hc
      refine ev_do hi (q' := (pc + 1, L, xrv o2 :: st, h)) ?_ kk
      show (if 1 = 1 then xaload 3 15 19 pc L (.int i :: .ref a :: st) h else none) = _
      rw [if_pos rfl]
      unfold xaload
      dsimp only
      rw [if_pos hc, e1]
      dsimp only
      rw [if_pos (xrv_kind o2).2.1]
    · cases e1
theorem sh_ast {tg : Nat} {ins : Jvm.ClassFile.Instr} {f : Int32 → Int32} (hi : xtI T mi pc = some (ins, 1)) (htg : (ins = .iastore ∧ tg = 13 ∧ f = fun x => x) ∨ (ins = .bastore ∧ tg = 12 ∧ f = vp_nar .byte) ∨ (ins = .bastore ∧ tg = 14 ∧ f = vp_nar .boolean)) (e : xaS h tg f o i x = some h') (kk : xEv T d mi (pc + 1, L, st, h') r) : xEv T d mi (pc, L, .int x :: .int i :: xrv o :: st, h) r := by
  cases o with
  | none => cases e
  | some a =>
    unfold xaS at e
    dsimp only at e
    split at e
    · rename_i hc
      cases e
      exact ev_ast hi htg (vs := (h.2.2 a).2) (by rw [← hc.2.1]) hc.1 hc.2.2 kk
    · cases e
theorem sh_asT (hi : xtI T mi pc = some (.aastore, 1)) (e : xaT h o i o2 = some h') (kk : xEv T d mi (pc + 1, L, st, h') r) : xEv T d mi (pc, L, xrv o2 :: .int i :: xrv o :: st, h) r := by
  cases o with
  | none => cases e
  | some a =>
    unfold xaT at e
    dsimp only at e
    split at e
    · rename_i hc
      cases e
      refine ev_do hi (q' := (pc + 1, L, st, xset h a ((h.2.2 a).1, (h.2.2 a).2.set i.toNatClampNeg (xrv o2)))) ?_ kk
      show (if 1 = 1 then xaast pc L (xrv o2 :: .int i :: .ref a :: st) h else none) = _
      rw [if_pos rfl]
      cases o2 with
      | none =>
        show (if a < h.1 ∧ (15 ≤ (h.2.2 a).1 ∧ (h.2.2 a).1 < 19) ∧ xout i (h.2.2 a).2.length = false then _ else _) = _
        rw [if_pos ⟨hc.1.1, hc.2.1, hc.2.2⟩]
        rfl
      | some b =>
        show (if (a < h.1 ∧ b < h.1) ∧ ((15 ≤ (h.2.2 a).1 ∧ (h.2.2 a).1 < 19) ∧ (h.2.2 b).1 = [0, 2, 6, 9].getD ((h.2.2 a).1 - 15) 99) ∧ xout i (h.2.2 a).2.length = false then _ else _) = _
        have hb := of_decide_eq_true hc.1.2
        rw [if_pos ⟨⟨hc.1.1, hb.1⟩, ⟨hc.2.1, hb.2⟩, hc.2.2⟩]
        rfl
    · cases e
theorem sh_len (hi : xtI T mi pc = some (.arraylength, 1)) (e : xaN h o = some x) (kk : xEv T d mi (pc + 1, L, .int x :: st, h) r) : xEv T d mi (pc, L, xrv o :: st, h) r := by
  cases o with
  | none => cases e
  | some a =>
    unfold xaN at e
    dsimp only at e
    split at e
    · rename_i hc
      cases e
      exact ev_len hi (vs := (h.2.2 a).2) rfl hc.1 hc.2.1 hc.2.2 kk
    · cases e
theorem sh_newa {tg n : Nat} {v : Value} {ins : Jvm.ClassFile.Instr} (hi : xtI T mi pc = some (ins, n)) (hd : ∀ L st h, xDo T mi ins n pc L st h = xmka tg n v pc L st h) (e : xnA h tg v x = some h') (kk : xEv T d mi (pc + n, L, xrv (some h.1) :: st, h') r) : xEv T d mi (pc, L, .int x :: st, h) r := by
  unfold xnA at e
  split at e
  · rename_i hc
    cases e
    refine ev_do hi (q' := (pc + n, L, xrv (some h.1) :: st, xnew h (tg, List.replicate x.toNatClampNeg v))) ?_ kk
    rw [hd]
    unfold xmka
    dsimp only
    rw [if_pos hc]
    rfl
  · cases e
theorem sh_null {off : Int} {t : Nat} (hi : xtI T mi pc = some (.ifnull off, 3)) (ht : xgo pc off = some t) (kn : o = none → xEv T d mi (t, L, st, h) r) (ks : ¬ o = none → xEv T d mi (pc + 3, L, st, h) r) : xEv T d mi (pc, L, xrv o :: st, h) r := by
  cases o with
  | none =>
    refine ev_do hi ?_ (kn rfl)
    show (if 3 = 3 then xnul false pc off L (.null :: st) h else none) = _
    rw [if_pos rfl]
    unfold xnul xbr
    simp [ht]
  | some a =>
    refine ev_do hi ?_ (ks (by simp))
    show (if 3 = 3 then xnul false pc off L (.ref a :: st) h else none) = _
    rw [if_pos rfl]
    unfold xnul xbr
    simp [ht]
theorem sh_nnul {off : Int} {t : Nat} (hi : xtI T mi pc = some (.ifnonnull off, 3)) (ht : xgo pc off = some t) (kn : o = none → xEv T d mi (pc + 3, L, st, h) r) (ks : ¬ o = none → xEv T d mi (t, L, st, h) r) : xEv T d mi (pc, L, xrv o :: st, h) r := by
  cases o with
  | none =>
    refine ev_do hi ?_ (kn rfl)
    show (if 3 = 3 then xnul true pc off L (.null :: st) h else none) = _
    rw [if_pos rfl]
    unfold xnul xbr
    simp [ht]
  | some a =>
    refine ev_do hi ?_ (ks (by simp))
    show (if 3 = 3 then xnul true pc off L (.ref a :: st) h else none) = _
    rw [if_pos rfl]
    unfold xnul xbr
    simp [ht]
theorem sh_acmp {off : Int} {t : Nat} {ne : Bool} (hi : xtI T mi pc = some (.if_acmp (if ne = true then .ne else .eq) off, 3)) (ht : xgo pc off = some t) (ke : o = o2 → xEv T d mi (if ne = true then pc + 3 else t, L, st, h) r) (kn : ¬ o = o2 → xEv T d mi (if ne = true then t else pc + 3, L, st, h) r) : xEv T d mi (pc, L, xrv o2 :: xrv o :: st, h) r := by
  have hinj : xrv o = xrv o2 ↔ o = o2 := by cases o <;> cases o2 <;> simp [xrv]
  by_cases he : o = o2
  · refine ev_do hi ?_ (ke he)
    have he2 := hinj.mpr he
    cases ne
    · show (if 3 = 3 then xacmp false pc off L (xrv o2 :: xrv o :: st) h else none) = _
      rw [if_pos rfl]
      unfold xacmp xbr
      dsimp only
      rw [if_pos ⟨(xrv_kind o).2.1, (xrv_kind o2).2.1⟩, ht]
      simp [he2]
    · show (if 3 = 3 then xacmp true pc off L (xrv o2 :: xrv o :: st) h else none) = _
      rw [if_pos rfl]
      unfold xacmp xbr
      dsimp only
      rw [if_pos ⟨(xrv_kind o).2.1, (xrv_kind o2).2.1⟩, ht]
      simp [he2]
  · refine ev_do hi ?_ (kn he)
    have he2 : ¬ xrv o = xrv o2 := fun h9 => he (hinj.mp h9)
    cases ne
    · show (if 3 = 3 then xacmp false pc off L (xrv o2 :: xrv o :: st) h else none) = _
      rw [if_pos rfl]
      unfold xacmp xbr
      dsimp only
      rw [if_pos ⟨(xrv_kind o).2.1, (xrv_kind o2).2.1⟩, ht]
      simp [he2]
    · show (if 3 = 3 then xacmp true pc off L (xrv o2 :: xrv o :: st) h else none) = _
      rw [if_pos rfl]
      unfold xacmp xbr
      dsimp only
      rw [if_pos ⟨(xrv_kind o).2.1, (xrv_kind o2).2.1⟩, ht]
      simp [he2]
theorem sh_iret {mt : xMt} {ty : FieldType} (hi : xtI T mi pc = some (.ireturn, 1)) (hM : xtM T mi = some mt) (ht : mt.2.2.2.1 = some ty) (hn : narrow ty (.int x) = .int x) : xEv T d mi (pc, L, [.int x], h) (some (.int x), h) := by
  refine ev_re hi ?_
  show (if 1 = 1 then xret T mi [.int x] h else none) = _
  rw [if_pos rfl]
  unfold xret
  rw [hM]
  obtain ⟨y9, c9, m9, t9, n9⟩ := mt
  have ht : t9 = some ty := ht
  subst ht
  dsimp only
  rw [if_pos hn]
theorem sh_aret {mt : xMt} {nm : String} (hi : xtI T mi pc = some (.areturn, 1)) (hM : xtM T mi = some mt) (ht : mt.2.2.2.1 = some (.object nm)) : xEv T d mi (pc, L, [xrv o], h) (some (xrv o), h) := by
  refine ev_re hi ?_
  show (if 1 = 1 then xaret T mi [xrv o] h else none) = _
  rw [if_pos rfl]
  unfold xaret
  rw [hM]
  obtain ⟨y9, c9, m9, t9, n9⟩ := mt
  have ht : t9 = some (.object nm) := ht
  subst ht
  dsimp only
  rw [if_pos (xrv_kind o).1]
theorem sh_vret {mt : xMt} (hi : xtI T mi pc = some (.return_, 1)) (hM : xtM T mi = some mt) (ht : mt.2.2.2.1 = none) : xEv T d mi (pc, L, [], h) (none, h) := by
  refine ev_re hi ?_
  show (if 1 = 1 then xvret T mi [] h else none) = _
  rw [if_pos rfl]
  unfold xvret
  rw [hM]
  obtain ⟨y9, c9, m9, t9, n9⟩ := mt
  have ht : t9 = none := ht
  subst ht
  rfl
end XSH
