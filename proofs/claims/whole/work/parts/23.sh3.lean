/-- a text's length, a byte of it -/
def xqL (k : Nat) : Option Int32 := if k < 9 then some (Int32.ofNat (xQ0.getD k []).length) else none
def xqC (k : Nat) (i : Int32) : Option Int32 := if k < 9 ∧ xout i (xQ0.getD k []).length = false then some ((xQ0.getD k []).getD i.toNatClampNeg 0) else none
section XSH3
variable {T : xT} {d mi pc idx ci k fl len : Nat} {L st : List Value} {h : xH} {r : xR} {x : Int32}
theorem ev_gst (hi : xtI T mi pc = some (.getstatic idx, 3)) (hF : xtF T mi idx = some (21, k, fl)) (hk : k < 2) (kk : xEv T d mi (pc + 3, L, (if k = 0 then .int 1 else .retAddr 201) :: st, h) r) : xEv T d mi (pc, L, st, h) r := by
  refine ev_do hi (q' := (pc + 3, L, (if k = 0 then .int 1 else .retAddr 201) :: st, h)) ?_ kk
  show (if 3 = 3 then xgst T mi idx pc L st h else none) = _
  rw [if_pos rfl]
  unfold xgst
  rw [hF]
  dsimp only
  rw [if_pos ⟨rfl, hk⟩]
theorem sh_sstore {i' n : Nat} {q : Nat} (hi : xtI T mi pc = some (if n = 2 then .astore i' else .astore_n (Fin.ofNat 4 i'), n)) (hn : n = 2 ∨ (n = 1 ∧ i' < 4)) (hl : xokst L i' = true) (kk : xEv T d mi (pc + n, L.set i' (.retAddr (q + 1)), st, h) r) : xEv T d mi (pc, L, .retAddr (q + 1) :: st, h) r := by
  refine ev_do hi (q' := (pc + n, L.set i' (.retAddr (q + 1)), st, h)) ?_ kk
  rcases hn with rfl | ⟨rfl, hn⟩
  · rw [if_pos rfl]
    show (if 2 = 2 then xstore 1 i' 2 pc L (.retAddr (q + 1) :: st) h else none) = _
    rw [if_pos rfl]
    unfold xstore
    dsimp only
    rw [if_pos ⟨rfl, hl⟩]
  · rw [if_neg (by decide)]
    show (if 1 = 1 then xstore 1 (Fin.ofNat 4 i').val 1 pc L (.retAddr (q + 1) :: st) h else none) = _
    rw [if_pos rfl, show (Fin.ofNat 4 i').val = i' from Nat.mod_eq_of_lt hn]
    unfold xstore
    dsimp only
    rw [if_pos ⟨rfl, hl⟩]
theorem sh_sret {mt : xMt} {nm : String} {q : Nat} (hi : xtI T mi pc = some (.areturn, 1)) (hM : xtM T mi = some mt) (ht : mt.2.2.2.1 = some (.object nm)) : xEv T d mi (pc, L, [.retAddr (q + 1)], h) (some (.retAddr (q + 1)), h) := by
  obtain ⟨m1, m2, m3, m4, m5⟩ := mt
  refine ev_re hi ?_
  show (if 1 = 1 then xaret T mi [.retAddr (q + 1)] h else none) = _
  rw [if_pos rfl]
  unfold xaret
  rw [hM]
  dsimp only at ht ⊢
  rw [ht]
  rfl
theorem sh_lswC {dv c off : Int} {ps : Array (Int × Int)} {len t : Nat} (hi : xtI T mi pc = some (.lookupswitch dv ps, len)) (hx : x.toInt = c) (hs : (ps.toList.zip (ps.toList.drop 1)).all (fun (a, next) => a.1 < next.1) = true) (ho : Op.lookupswitch.offset ps.toList dv c = off) (ht : xgo pc off = some t) (kk : xEv T d mi (t, L, st, h) r) : xEv T d mi (pc, L, .int x :: st, h) r := by
  refine ev_do hi (q' := (t, L, st, h)) ?_ kk
  show xlsw dv ps pc L (.int x :: st) h = _
  unfold xlsw
  dsimp only
  rw [if_pos hs, hx, ho]
  unfold xto
  rw [ht]
theorem sh_lswD {dv : Int} {ps : Array (Int × Int)} {len t : Nat} (hi : xtI T mi pc = some (.lookupswitch dv ps, len)) (hs : (ps.toList.zip (ps.toList.drop 1)).all (fun (a, next) => a.1 < next.1) = true) (ho : Op.lookupswitch.offset ps.toList dv x.toInt = dv) (ht : xgo pc dv = some t) (kk : xEv T d mi (t, L, st, h) r) : xEv T d mi (pc, L, .int x :: st, h) r := by
  refine ev_do hi (q' := (t, L, st, h)) ?_ kk
  show xlsw dv ps pc L (.int x :: st) h = _
  unfold xlsw
  dsimp only
  rw [if_pos hs, ho]
  unfold xto
  rw [ht]
end XSH3
section XSH4
variable {xs : List Int32} {d mi pc idx ci k j fl len : Nat} {L st : List Value} {h : xH} {r : xR} {x i : Int32}
theorem xq_len : (xtQ (xTa xs)).length = 9 := rfl
theorem ev_ldc {n : Nat} {ins : Jvm.ClassFile.Instr} (hi : xtI (xTa xs) mi pc = some (ins, n)) (hn : (ins = .ldc idx ∧ n = 2) ∨ (ins = .ldc_w idx ∧ n = 3)) (hS : xtS (xTa xs) mi idx = some k) (hk : k < 9) (kk : xEv (xTa xs) d mi (pc + n, L, .retAddr (k + 1) :: st, h) r) : xEv (xTa xs) d mi (pc, L, st, h) r := by
  refine ev_do hi (q' := (pc + n, L, .retAddr (k + 1) :: st, h)) ?_ kk
  have e : xldc (xTa xs) mi idx n pc L st h = some (.inl (pc + n, L, .retAddr (k + 1) :: st, h)) := by
    unfold xldc
    rw [hS]
    dsimp only
    rw [if_pos (show k < (xtQ (xTa xs)).length from hk)]
  rcases hn with ⟨rfl, rfl⟩ | ⟨rfl, rfl⟩
  · show (if 2 = 2 then xldc (xTa xs) mi idx 2 pc L st h else none) = _
    rw [if_pos rfl, e]
  · show (if 3 = 3 then xldc (xTa xs) mi idx 3 pc L st h else none) = _
    rw [if_pos rfl, e]
theorem ev_tget (hi : xtI (xTa xs) mi pc = some (.getfield idx, 3)) (hF : xtF (xTa xs) mi idx = some (20, k, fl)) (hj : j < 9) (hk : k < 2) (kk : xEv (xTa xs) d mi (pc + 3, L, (if k = 0 then .retAddr (j + 101) else .int 0) :: st, h) r) : xEv (xTa xs) d mi (pc, L, .retAddr (j + 1) :: st, h) r := by
  refine ev_do hi (q' := (pc + 3, L, (if k = 0 then .retAddr (j + 101) else .int 0) :: st, h)) ?_ kk
  show (if 3 = 3 then xget (xTa xs) mi idx pc L (.retAddr (j + 1) :: st) h else none) = _
  rw [if_pos rfl]
  unfold xget
  rw [hF]
  dsimp only
  rw [if_pos ⟨⟨rfl, (show j < (xtQ (xTa xs)).length from hj)⟩, hk⟩]
theorem ev_tlen (hi : xtI (xTa xs) mi pc = some (.arraylength, 1)) (hj : j < 9) (kk : xEv (xTa xs) d mi (pc + 1, L, .int (Int32.ofNat (xQ0.getD j []).length) :: st, h) r) : xEv (xTa xs) d mi (pc, L, .retAddr (j + 101) :: st, h) r := by
  refine ev_do hi (q' := (pc + 1, L, .int (Int32.ofNat (xQ0.getD j []).length) :: st, h)) ?_ kk
  show (if 1 = 1 then xlen (xTa xs) pc L (.retAddr (j + 100 + 1) :: st) h else none) = _
  rw [if_pos rfl]
  unfold xlen
  dsimp only
  rw [if_pos (show 100 ≤ j + 100 ∧ j + 100 - 100 < (xtQ (xTa xs)).length from ⟨by omega, by rw [xq_len]; omega⟩), show j + 100 - 100 = j by omega]
  rfl
theorem ev_tld (hi : xtI (xTa xs) mi pc = some (.baload, 1)) (hj : j < 9) (hin : xout i (xQ0.getD j []).length = false) (kk : xEv (xTa xs) d mi (pc + 1, L, .int ((xQ0.getD j []).getD i.toNatClampNeg 0) :: st, h) r) : xEv (xTa xs) d mi (pc, L, .int i :: .retAddr (j + 101) :: st, h) r := by
  refine ev_do hi (q' := (pc + 1, L, .int ((xQ0.getD j []).getD i.toNatClampNeg 0) :: st, h)) ?_ kk
  show (if 1 = 1 then xtld (xTa xs) pc L (.int i :: .retAddr (j + 100 + 1) :: st) h else none) = _
  rw [if_pos rfl]
  unfold xtld
  dsimp only
  have e : j + 100 - 100 = j := by omega
  have eq : xtQ (xTa xs) = xQ0 := rfl
  rw [e, eq, if_pos ⟨⟨by omega, hj⟩, hin⟩]
theorem ev_invT {mj : Nat} {as : List Value} {mt : xMt} {z : xR} (hi : xtI (xTa xs) mi pc = some (.invokevirtual idx, 3)) (hV : xtV (xTa xs) mi idx = some (9, mj, ci)) (hM : xtM (xTa xs) mj = some mt) (hn : as.length = mt.2.2.2.2) (hct : xcat st ≤ 8) (hj : j < 9) (hc : xCall (xTa xs) d mj (.retAddr (j + 1) :: as.reverse) h z) (kk : xEv (xTa xs) d mi (pc + 3, L, z.1.toList ++ st, z.2) r) : xEv (xTa xs) d mi (pc, L, as ++ .retAddr (j + 1) :: st, h) r := by
  refine ev_ca hi (q' := (pc + 3, L, st, h)) (mj := mj) (as := .retAddr (j + 1) :: as.reverse) ?_ hc kk
  show (if 3 = 3 then xvirt (xTa xs) mi idx pc L (as ++ .retAddr (j + 1) :: st) h else none) = _
  rw [if_pos rfl]
  unfold xvirt
  rw [hV]
  dsimp only
  rw [if_neg (by decide), if_pos rfl]
  unfold xcallT
  rw [hM]
  dsimp only
  rw [← hn, List.drop_left, List.take_left]
  dsimp only
  rw [if_pos ⟨⟨by simp, hct⟩, (show j < (xtQ (xTa xs)).length from hj)⟩]
end XSH4
