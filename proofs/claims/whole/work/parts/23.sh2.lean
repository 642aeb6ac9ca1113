theorem x_pos {c : Prop} {i : Decidable c} {α : Type} {a b : Option α} {r : α} (hc : c) (h : (@ite (Option α) c i a b) = some r) : a = some r := by rwa [if_pos hc] at h
theorem x_neg {c : Prop} {i : Decidable c} {α : Type} {a b : Option α} {r : α} (hc : ¬ c) (h : (@ite (Option α) c i a b) = some r) : b = some r := by rwa [if_neg hc] at h
theorem xrv_cat (o : Option Nat) : (xrv o).category = 1 := (xrv_kind o).2.2
theorem xokst_of {L : List Value} {i : Nat} (h1 : i < L.length) (h2 : (L.getD (i - 1) .null).category = 1) : xokst L i = true := by
  unfold xokst
  rw [decide_eq_true h1, h2]
  simp
/-- the object is there, and of a kind -/
def xcv (h : xH) (o : Option Nat) (ci : Nat) : Option Unit := match o with
  | some a => if a < h.1 ∧ (h.2.2 a).1 = ci ∧ ci < 12 then some () else none
  | none => none
def xFuel : Nat := 1000000
section XSH2
variable {T : xT} {d mi pc idx ci k fl len : Nat} {L st : List Value} {h h' : xH} {r : xR} {o o2 : Option Nat} {x y i : Int32}
theorem sh_istore {i' n : Nat} (hi : xtI T mi pc = some (if n = 2 then .istore i' else .istore_n (Fin.ofNat 4 i'), n)) (hn : n = 2 ∨ (n = 1 ∧ i' < 4)) (hl : xokst L i' = true) (kk : xEv T d mi (pc + n, L.set i' (.int x), st, h) r) : xEv T d mi (pc, L, .int x :: st, h) r := by
  rcases hn with rfl | ⟨rfl, h4⟩
  · refine ev_do hi (q' := (pc + 2, L.set i' (.int x), st, h)) ?_ kk
    show (if 2 = 2 then xstore 0 i' 2 pc L (.int x :: st) h else none) = _
    rw [if_pos rfl]
    unfold xstore
    dsimp only
    rw [if_pos ⟨rfl, hl⟩]
  · refine ev_do hi (q' := (pc + 1, L.set i' (.int x), st, h)) ?_ kk
    show (if 1 = 1 then xstore 0 (Fin.ofNat 4 i' : Fin 4) 1 pc L (.int x :: st) h else none) = _
    rw [if_pos rfl]
    unfold xstore
    dsimp only
    rw [show ((Fin.ofNat 4 i' : Fin 4) : Nat) = i' from Nat.mod_eq_of_lt h4, if_pos ⟨rfl, hl⟩]
theorem sh_inc {i' : Nat} {n : Int} (hi : xtI T mi pc = some (.iinc i' n, 3)) (hv : L[i']? = some (.int x)) (hl : xokst L i' = true) (hy : x + Int32.ofInt n = y) (kk : xEv T d mi (pc + 3, L.set i' (.int y), st, h) r) : xEv T d mi (pc, L, st, h) r := by
  subst hy
  refine ev_do hi (q' := (pc + 3, L.set i' (.int (x + Int32.ofInt n)), st, h)) ?_ kk
  show (if 3 = 3 then xinc i' n pc L st h else none) = _
  rw [if_pos rfl]
  unfold xinc
  rw [hv]
  dsimp only
  rw [if_pos hl]
theorem sh_dup {v : Value} (hi : xtI T mi pc = some (.dup, 1)) (hv : v.category = 1) (kk : xEv T d mi (pc + 1, L, v :: v :: st, h) r) : xEv T d mi (pc, L, v :: st, h) r := by
  refine ev_do hi (q' := (pc + 1, L, v :: v :: st, h)) ?_ kk
  show (if 1 = 1 then xdup pc L (v :: st) h else none) = _
  rw [if_pos rfl]
  unfold xdup
  dsimp only
  rw [if_pos hv]
theorem sh_dup2 {v w : Value} (hi : xtI T mi pc = some (.dup2, 1)) (hv : v.category = 1) (hw : w.category = 1) (kk : xEv T d mi (pc + 1, L, v :: w :: v :: w :: st, h) r) : xEv T d mi (pc, L, v :: w :: st, h) r := by
  refine ev_do hi (q' := (pc + 1, L, v :: w :: v :: w :: st, h)) ?_ kk
  show (if 1 = 1 then xdup2 pc L (v :: w :: st) h else none) = _
  rw [if_pos rfl]
  unfold xdup2
  dsimp only
  rw [if_pos ⟨hv, hw⟩]
theorem sh_pop {v : Value} (hi : xtI T mi pc = some (.pop, 1)) (hv : v.category = 1) (kk : xEv T d mi (pc + 1, L, st, h) r) : xEv T d mi (pc, L, v :: st, h) r := by
  refine ev_do hi (q' := (pc + 1, L, st, h)) ?_ kk
  show (if 1 = 1 then xpop pc L (v :: st) h else none) = _
  rw [if_pos rfl]
  unfold xpop
  dsimp only
  rw [if_pos hv]
theorem sh_div (hi : xtI T mi pc = some (.idiv, 1)) (hy : ¬ y = 0) (kk : xEv T d mi (pc + 1, L, .int (x / y) :: st, h) r) : xEv T d mi (pc, L, .int y :: .int x :: st, h) r := by
  refine ev_do hi (q' := (pc + 1, L, .int (x / y) :: st, h)) ?_ kk
  show (if 1 = 1 then xdiv true pc L (.int y :: .int x :: st) h else none) = _
  rw [if_pos rfl]
  unfold xdiv
  dsimp only
  rw [if_neg hy]
  rfl
theorem sh_rem (hi : xtI T mi pc = some (.irem, 1)) (hy : ¬ y = 0) (kk : xEv T d mi (pc + 1, L, .int (x - x / y * y) :: st, h) r) : xEv T d mi (pc, L, .int y :: .int x :: st, h) r := by
  refine ev_do hi (q' := (pc + 1, L, .int (x - x / y * y) :: st, h)) ?_ kk
  show (if 1 = 1 then xdiv false pc L (.int y :: .int x :: st) h else none) = _
  rw [if_pos rfl]
  unfold xdiv
  dsimp only
  rw [if_neg hy]
  rfl
theorem sh_inv {mj kd : Nat} {as : List Value} {mt : xMt} {z : xR} {ins : Jvm.ClassFile.Instr} (hi : xtI T mi pc = some (ins, 3)) (hV : xtV T mi idx = some (kd, mj, ci)) (hk : (kd < 2 ∧ ins = .invokevirtual idx) ∨ ((kd = 2 ∨ kd = 3) ∧ ins = .invokespecial idx)) (hM : xtM T mj = some mt) (hn : as.length = mt.2.2.2.2) (hct : xcat st ≤ 8) (e : xcv h o ci = some ()) (hc : xCall T d mj (xrv o :: as.reverse) h z) (kk : xEv T d mi (pc + 3, L, z.1.toList ++ st, z.2) r) : xEv T d mi (pc, L, as ++ xrv o :: st, h) r := by
  cases o with
  | none => cases e
  | some a =>
    unfold xcv at e
    dsimp only at e
    split at e
    · rename_i h9
      exact ev_inv (n := 0) hi hV hk hM hn hct h9.1 h9.2.1 h9.2.2 hc kk
    · cases e
theorem sh_obj {mj : Nat} {a : Nat} (hi : xtI T mi pc = some (.invokespecial idx, 3)) (hV : xtV T mi idx = some (6, mj, ci)) (hct : xcat st ≤ 8) (hs : o = some a) (kk : xEv T d mi (pc + 3, L, st, h) r) : xEv T d mi (pc, L, xrv o :: st, h) r := by
  subst hs
  exact ev_obj hi hV hct kk
theorem sh_slen (hi : xtI T mi pc = some (.arraylength, 1)) (kk : xEv T d mi (pc + 1, L, .int (Int32.ofNat (xtX T).length) :: st, h) r) : xEv T d mi (pc, L, .retAddr 0 :: st, h) r := ev_do hi (q' := (pc + 1, L, .int (Int32.ofNat (xtX T).length) :: st, h)) rfl kk
theorem sh_sld (hi : xtI T mi pc = some (.iaload, 1)) (e : xsL (xtX T) i = some x) (kk : xEv T d mi (pc + 1, L, .int x :: st, h) r) : xEv T d mi (pc, L, .int i :: .retAddr 0 :: st, h) r := by
  unfold xsL at e
  split at e
  · rename_i hc
    cases e
    refine ev_do hi (q' := (pc + 1, L, .int ((xtX T).getD i.toNatClampNeg 0) :: st, h)) ?_ kk
    show (if 1 = 1 then xsload T pc L (.int i :: .retAddr 0 :: st) h else none) = _
    rw [if_pos rfl]
    exact (if_pos hc : (if xout i (xtX T).length = false then some (Sum.inl (pc + 1, L, Value.int ((xtX T).getD i.toNatClampNeg 0) :: st, h)) else none : Option xOut) = _)
  · cases e
end XSH2
