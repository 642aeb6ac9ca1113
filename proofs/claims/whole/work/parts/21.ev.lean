section XEV
variable {T : xT} {d mi pc idx ci k fl len : Nat} {L st : List Value} {h : xH} {r : xR} {q' : xCfg} {ins : Jvm.ClassFile.Instr}
theorem ev_do (hi : xtI T mi pc = some (ins, len)) (hd : xDo T mi ins len pc L st h = some (.inl q')) (kk : xEv T d mi q' r) : xEv T d mi (pc, L, st, h) r := by
  rw [xEv_iff]
  unfold xStep
  rw [hi]
  dsimp only
  rw [hd]
  exact kk
theorem ev_ca {mj : Nat} {as : List Value} {z : xR} (hi : xtI T mi pc = some (ins, len)) (hd : xDo T mi ins len pc L st h = some (.inr (.inl (mj, as, q')))) (hc : xCall T d mj as q'.2.2.2 z) (kk : xEv T d mi (q'.1, q'.2.1, z.1.toList ++ q'.2.2.1, z.2) r) : xEv T d mi (pc, L, st, h) r := by
  rw [xEv_iff]
  unfold xStep
  rw [hi]
  dsimp only
  rw [hd]
  exact ⟨z, hc, kk⟩
theorem ev_re (hi : xtI T mi pc = some (ins, len)) (hd : xDo T mi ins len pc L st h = some (.inr (.inr r))) : xEv T d mi (pc, L, st, h) r := by
  rw [xEv_iff]
  unfold xStep
  rw [hi]
  dsimp only
  rw [hd]
  rfl
theorem call_of {as : List Value} {mt : xMt} (hM : xtM T mi = some mt) (hf : (xfl as).length ≤ mt.2.2.1) (kk : xEv T d mi (0, xloc as mt.2.2.1, [], h) r) : xCall T (d + 1) mi as h r := by
  obtain ⟨n, hn⟩ := kk
  exact ⟨mt, hM, hf, n, hn⟩
theorem xRun_up {K K' : Nat → List Value → xH → xR → Prop} (hK : ∀ mj as h z, K mj as h z → K' mj as h z) : ∀ (n : Nat) (q : xCfg) (r : xR), xRun T K mi n q r → xRun T K' mi n q r := by
  intro n
  induction n with
  | zero => exact fun _ _ h => h
  | succ n ih =>
    intro q r h
    unfold xRun at h ⊢
    revert h
    generalize xStep T mi q = o
    intro h
    rcases o with _ | q' | ⟨mj, as, q'⟩ | z'
    · exact h
    · exact ih q' r h
    · obtain ⟨z, h1, h2⟩ := h
      exact ⟨z, hK _ _ _ _ h1, ih _ r h2⟩
    · exact h
theorem xCall_up1 : ∀ (d mi : Nat) (as : List Value) (h : xH) (r : xR), xCall T d mi as h r → xCall T (d + 1) mi as h r := by
  intro d
  induction d with
  | zero => exact fun _ _ _ _ h => h.elim
  | succ d ih =>
    intro mi as h r hc
    obtain ⟨m, h1, h2, n, h3⟩ := hc
    exact ⟨m, h1, h2, n, xRun_up ih n _ r h3⟩
theorem xCall_up {d d' mi : Nat} {as : List Value} {h : xH} {r : xR} (hd : d ≤ d') (hc : xCall T d mi as h r) : xCall T d' mi as h r := by
  induction hd with
  | refl => exact hc
  | step _ ih => exact xCall_up1 _ _ _ _ _ ih
theorem ev_get {a : Nat} {fs : List Value} {v : Value} (hi : xtI T mi pc = some (.getfield idx, 3)) (hF : xtF T mi idx = some (ci, k, fl)) (hc : h.2.2 a = (ci, fs)) (ha : a < h.1) (hci : ci < 12) (hv : fs[k]? = some v) (kk : xEv T d mi (pc + 3, L, v :: st, h) r) : xEv T d mi (pc, L, .ref a :: st, h) r := by
  refine ev_do hi (q' := (pc + 3, L, v :: st, h)) ?_ kk
  show (if 3 = 3 then xget T mi idx pc L (.ref a :: st) h else none) = _
  rw [if_pos rfl]
  unfold xget
  rw [hF]
  dsimp only
  rw [hc, if_pos ⟨ha, rfl, hci⟩]
  dsimp only
  rw [hv]
theorem ev_put {a : Nat} {fs : List Value} {v : Value} (hi : xtI T mi pc = some (.putfield idx, 3)) (hF : xtF T mi idx = some (ci, k, fl)) (hc : h.2.2 a = (ci, fs)) (ha : a < h.1) (hci : ci < 12) (hk : k < fs.length) (hfit : xfit ((xtD T ci).getD k .int) v = true) (hfl : fl < 3) (kk : xEv T d mi (pc + 3, L, st, xset h a (ci, fs.set k v)) r) : xEv T d mi (pc, L, v :: .ref a :: st, h) r := by
  refine ev_do hi (q' := (pc + 3, L, st, xset h a (ci, fs.set k v))) ?_ kk
  show (if 3 = 3 then xput T mi idx pc L (v :: .ref a :: st) h else none) = _
  rw [if_pos rfl]
  unfold xput
  rw [hF]
  dsimp only
  rw [hc, if_pos ⟨⟨ha, rfl, hci⟩, ⟨hk, hfit⟩, hfl⟩]
theorem ev_mk {fs : List Value} (hi : xtI T mi pc = some (.new idx, 3)) (hC : xtC T mi idx = some ci) (hci : ci < 12) (hfs : (xtD T ci).map defaultValue = fs) (kk : xEv T d mi (pc + 3, L, .ref h.1 :: st, xnew h (ci, fs)) r) : xEv T d mi (pc, L, st, h) r := by
  subst hfs
  refine ev_do hi (q' := (pc + 3, L, .ref h.1 :: st, xnew h (ci, (xtD T ci).map defaultValue))) ?_ kk
  show (if 3 = 3 then xmk T mi idx pc L st h else none) = _
  rw [if_pos rfl]
  unfold xmk
  rw [hC]
  dsimp only
  rw [if_pos hci]
def xcP (kd : Jvm.ClassFile.Cond) (x y : Int32) : Prop := match kd with
  | .eq => x = y
  | .ne => ¬ x = y
  | .lt => x < y
  | .ge => y ≤ x
  | .gt => y < x
  | .le => x ≤ y
theorem xcond_iff {kd : Jvm.ClassFile.Cond} {x y : Int32} : (xcond kd x y = true ↔ xcP kd x y) ∧ (xcond kd x y = false ↔ ¬ xcP kd x y) := by
  cases kd <;> simp [xcond, xcP]
theorem ev_icmp {kd : Jvm.ClassFile.Cond} {off : Int} {t : Nat} {x y : Int32} (hi : xtI T mi pc = some (.if_icmp kd off, 3)) (ht : xgo pc off = some t) (kt : xcP kd x y → xEv T d mi (t, L, st, h) r) (kf : ¬ xcP kd x y → xEv T d mi (pc + 3, L, st, h) r) : xEv T d mi (pc, L, .int y :: .int x :: st, h) r := by
  cases hb : xcond kd x y with
  | true =>
    refine ev_do hi (q' := (t, L, st, h)) ?_ (kt (xcond_iff.1.mp hb))
    show (if 3 = 3 then xicmp kd pc off L (.int y :: .int x :: st) h else none) = _
    rw [if_pos rfl]
    unfold xicmp xbr
    dsimp only
    rw [ht, hb]
    rfl
  | false =>
    refine ev_do hi (q' := (pc + 3, L, st, h)) ?_ (kf (xcond_iff.2.mp hb))
    show (if 3 = 3 then xicmp kd pc off L (.int y :: .int x :: st) h else none) = _
    rw [if_pos rfl]
    unfold xicmp xbr
    dsimp only
    rw [ht, hb]
    rfl
theorem ev_if {kd : Jvm.ClassFile.Cond} {off : Int} {t : Nat} {x : Int32} (hi : xtI T mi pc = some (.ifCond kd off, 3)) (ht : xgo pc off = some t) (kt : xcP kd x 0 → xEv T d mi (t, L, st, h) r) (kf : ¬ xcP kd x 0 → xEv T d mi (pc + 3, L, st, h) r) : xEv T d mi (pc, L, .int x :: st, h) r := by
  cases hb : xcond kd x 0 with
  | true =>
    refine ev_do hi (q' := (t, L, st, h)) ?_ (kt (xcond_iff.1.mp hb))
    show (if 3 = 3 then xif kd pc off L (.int x :: st) h else none) = _
    rw [if_pos rfl]
    unfold xif xbr
    dsimp only
    rw [ht, hb]
    rfl
  | false =>
    refine ev_do hi (q' := (pc + 3, L, st, h)) ?_ (kf (xcond_iff.2.mp hb))
    show (if 3 = 3 then xif kd pc off L (.int x :: st) h else none) = _
    rw [if_pos rfl]
    unfold xif xbr
    dsimp only
    rw [ht, hb]
    rfl
/-- a load out of an array of numbers -/
theorem ev_ald {tg : Nat} {a : Nat} {vs : List Value} {i x : Int32} (hi : xtI T mi pc = some (ins, 1)) (htg : (ins = .iaload ∧ tg = 13) ∨ (ins = .baload ∧ tg = 12) ∨ (ins = .baload ∧ tg = 14)) (hc : h.2.2 a = (tg, vs)) (ha : a < h.1) (hin : xout i vs.length = false) (hv : vs[i.toNatClampNeg]? = some (.int x)) (kk : xEv T d mi (pc + 1, L, .int x :: st, h) r) : xEv T d mi (pc, L, .int i :: .ref a :: st, h) r := by
  refine ev_do hi (q' := (pc + 1, L, .int x :: st, h)) ?_ kk
  rcases htg with ⟨rfl, rfl⟩ | ⟨rfl, rfl⟩ | ⟨rfl, rfl⟩
  · show (if 1 = 1 then xsload T pc L (.int i :: .ref a :: st) h else none) = _
    rw [if_pos rfl]
    unfold xsload xaload
    dsimp only
    rw [hc, if_pos ⟨ha, ⟨by dsimp only; omega, by dsimp only; omega⟩, hin⟩]
    dsimp only
    rw [hv]
    rfl
  · show (if 1 = 1 then (if (h.2.2 a).1 = 12 then xaload 0 12 13 pc L (.int i :: .ref a :: st) h else xaload 0 14 15 pc L (.int i :: .ref a :: st) h) else none) = _
    rw [if_pos rfl, hc, if_pos rfl]
    unfold xaload
    dsimp only
    rw [hc, if_pos ⟨ha, ⟨by dsimp only; omega, by dsimp only; omega⟩, hin⟩]
    dsimp only
    rw [hv]
    rfl
  · show (if 1 = 1 then (if (h.2.2 a).1 = 12 then xaload 0 12 13 pc L (.int i :: .ref a :: st) h else xaload 0 14 15 pc L (.int i :: .ref a :: st) h) else none) = _
    rw [if_pos rfl, hc, if_neg (by dsimp only; omega)]
    unfold xaload
    dsimp only
    rw [hc, if_pos ⟨ha, ⟨by dsimp only; omega, by dsimp only; omega⟩, hin⟩]
    dsimp only
    rw [hv]
    rfl
theorem ev_len {tg : Nat} {a : Nat} {vs : List Value} (hi : xtI T mi pc = some (.arraylength, 1)) (hc : h.2.2 a = (tg, vs)) (ha : a < h.1) (h1 : 12 ≤ tg) (h2 : tg < 19) (kk : xEv T d mi (pc + 1, L, .int (Int32.ofNat vs.length) :: st, h) r) : xEv T d mi (pc, L, .ref a :: st, h) r := by
  refine ev_do hi (q' := (pc + 1, L, .int (Int32.ofNat vs.length) :: st, h)) ?_ kk
  show (if 1 = 1 then xlen T pc L (.ref a :: st) h else none) = _
  rw [if_pos rfl]
  unfold xlen
  dsimp only
  rw [hc, if_pos ⟨ha, h1, h2⟩]
theorem ev_ast {tg : Nat} {a : Nat} {vs : List Value} {i x : Int32} {f : Int32 → Int32} (hi : xtI T mi pc = some (ins, 1)) (htg : (ins = .iastore ∧ tg = 13 ∧ f = fun x => x) ∨ (ins = .bastore ∧ tg = 12 ∧ f = vp_nar .byte) ∨ (ins = .bastore ∧ tg = 14 ∧ f = vp_nar .boolean)) (hc : h.2.2 a = (tg, vs)) (ha : a < h.1) (hin : xout i vs.length = false) (kk : xEv T d mi (pc + 1, L, st, xset h a (tg, vs.set i.toNatClampNeg (.int (f x)))) r) : xEv T d mi (pc, L, .int x :: .int i :: .ref a :: st, h) r := by
  refine ev_do hi (q' := (pc + 1, L, st, xset h a (tg, vs.set i.toNatClampNeg (.int (f x))))) ?_ kk
  rcases htg with ⟨rfl, rfl, rfl⟩ | ⟨rfl, rfl, rfl⟩ | ⟨rfl, rfl, rfl⟩
  · show (if 1 = 1 then xiast 13 (fun x => x) pc L (.int x :: .int i :: .ref a :: st) h else none) = _
    rw [if_pos rfl]
    unfold xiast
    dsimp only
    rw [hc, if_pos ⟨ha, rfl, hin⟩]
  · show (if 1 = 1 then (if (h.2.2 a).1 = 12 then xiast 12 (vp_nar .byte) pc L (.int x :: .int i :: .ref a :: st) h else xiast 14 (vp_nar .boolean) pc L (.int x :: .int i :: .ref a :: st) h) else none) = _
    rw [if_pos rfl, hc, if_pos rfl]
    unfold xiast
    dsimp only
    rw [hc, if_pos ⟨ha, rfl, hin⟩]
  · show (if 1 = 1 then (if (h.2.2 a).1 = 12 then xiast 12 (vp_nar .byte) pc L (.int x :: .int i :: .ref a :: st) h else xiast 14 (vp_nar .boolean) pc L (.int x :: .int i :: .ref a :: st) h) else none) = _
    rw [if_pos rfl, hc, if_neg (by dsimp only; omega)]
    unfold xiast
    dsimp only
    rw [hc, if_pos ⟨ha, rfl, hin⟩]
/-- a call on an object: n parameters lie on it -/
theorem ev_inv {mj kd a n : Nat} {as : List Value} {mt : xMt} {z : xR} (hi : xtI T mi pc = some (ins, 3)) (hV : xtV T mi idx = some (kd, mj, ci)) (hk : (kd < 2 ∧ ins = .invokevirtual idx) ∨ ((kd = 2 ∨ kd = 3) ∧ ins = .invokespecial idx)) (hM : xtM T mj = some mt) (hn : as.length = mt.2.2.2.2) (hct : xcat st ≤ 8) (ha : a < h.1) (ht : (h.2.2 a).1 = ci) (hci : ci < 12) (hc : xCall T d mj (.ref a :: as.reverse) h z) (kk : xEv T d mi (pc + 3, L, z.1.toList ++ st, z.2) r) : xEv T d mi (pc, L, as ++ .ref a :: st, h) r := by
  have hcI : xcallI T mj ci pc L (as ++ .ref a :: st) h = some (.inr (.inl (mj, .ref a :: as.reverse, (pc + 3, L, st, h)))) := by
    unfold xcallI
    rw [hM]
    dsimp only
    rw [← hn, List.drop_left, List.take_left]
    dsimp only
    rw [if_pos ⟨⟨by simp, hct⟩, ha, ht, hci⟩]
  refine ev_ca hi (q' := (pc + 3, L, st, h)) (mj := mj) (as := .ref a :: as.reverse) ?_ hc kk
  rcases hk with ⟨hk, rfl⟩ | ⟨hk, rfl⟩
  · show (if 3 = 3 then xvirt T mi idx pc L (as ++ .ref a :: st) h else none) = _
    rw [if_pos rfl]
    unfold xvirt
    rw [hV]
    dsimp only
    rw [if_pos hk]
    exact hcI
  · show (if 3 = 3 then xspec T mi idx pc L (as ++ .ref a :: st) h else none) = _
    rw [if_pos rfl]
    unfold xspec
    rw [hV]
    dsimp only
    rw [if_neg (by omega), if_pos hk]
    exact hcI
theorem ev_sta {mj kd : Nat} {as : List Value} {mt : xMt} {z : xR} (hi : xtI T mi pc = some (.invokestatic idx, 3)) (hV : xtV T mi idx = some (kd, mj, ci)) (hk : kd = 4 ∨ kd = 5) (hM : xtM T mj = some mt) (hn : as.length = mt.2.2.2.2) (hct : xcat st ≤ 8) (hc : xCall T d mj as.reverse h z) (kk : xEv T d mi (pc + 3, L, z.1.toList ++ st, z.2) r) : xEv T d mi (pc, L, as ++ st, h) r := by
  refine ev_ca hi (q' := (pc + 3, L, st, h)) (mj := mj) (as := as.reverse) ?_ hc kk
  show (if 3 = 3 then xstat T mi idx pc L (as ++ st) h else none) = _
  rw [if_pos rfl]
  unfold xstat
  rw [hV]
  dsimp only
  rw [if_neg (by omega), if_neg (by omega), if_pos hk]
  unfold xcallS
  rw [hM]
  dsimp only
  rw [← hn, List.drop_left, List.take_left, if_pos ⟨by simp, hct⟩]
theorem ev_obj {mj a : Nat} (hi : xtI T mi pc = some (.invokespecial idx, 3)) (hV : xtV T mi idx = some (6, mj, ci)) (hct : xcat st ≤ 8) (kk : xEv T d mi (pc + 3, L, st, h) r) : xEv T d mi (pc, L, .ref a :: st, h) r := by
  refine ev_do hi (q' := (pc + 3, L, st, h)) ?_ kk
  show (if 3 = 3 then xspec T mi idx pc L (.ref a :: st) h else none) = _
  rw [if_pos rfl]
  unfold xspec
  rw [hV]
  dsimp only
  rw [if_pos rfl]
  unfold xobj
  dsimp only
  rw [if_pos hct]
theorem ev_max {mj kd : Nat} {x y : Int32} (hi : xtI T mi pc = some (.invokestatic idx, 3)) (hV : xtV T mi idx = some (kd, mj, ci)) (hk : kd = 7 ∨ kd = 8) (hct : xcat st ≤ 8) (kk : xEv T d mi (pc + 3, L, .int (if kd = 7 then (if x < y then y else x) else (if y < x then y else x)) :: st, h) r) : xEv T d mi (pc, L, .int y :: .int x :: st, h) r := by
  refine ev_do hi (q' := (pc + 3, L, .int (if kd = 7 then (if x < y then y else x) else (if y < x then y else x)) :: st, h)) ?_ kk
  show (if 3 = 3 then xstat T mi idx pc L (.int y :: .int x :: st) h else none) = _
  rw [if_pos rfl]
  unfold xstat
  rw [hV]
  dsimp only
  rcases hk with rfl | rfl
  · rw [if_pos rfl]
    unfold xmath
    dsimp only
    rw [if_pos hct]
    rfl
  · rw [if_neg (by decide), if_pos rfl]
    unfold xmath
    dsimp only
    rw [if_pos hct]
    rfl
end XEV
