def xA1 (s : State) (q : ClassId) (ty : FieldType) : Prop := ArrOfT s q ty ∧ va_RA s q ty
theorem xA1_prim {s : State} {args : Array Value} {ty : FieldType} (hno : ∀ n, ty ≠ .object n) (h : (Cond.arrayClass ty).before args s = true) : ∃ q, xA1 s q ty := by
  obtain ⟨q, k, comp, h1, h2, h3⟩ := Cond.arrayClass_spec h
  refine ⟨q, fun n z => ⟨(fun k9 h9 => by cases h9), k, h2, comp, h3⟩, ?_⟩
  cases ty <;> first | exact absurd rfl (hno _) | exact h1
theorem xA1_obj {s : State} {n : String} (h : va_AO n s) : ∃ q, xA1 s q (.object n) := by
  obtain ⟨comp, q, k, h1, h2, h3, h4, h5⟩ := Cond.arrayOver_spec h
  exact ⟨q, fun N z => ⟨(fun k9 h9 => by cases h9), k, h3, comp, h4⟩, k, comp, h3, h4, h1, h5⟩
def xh0 : xH := (0, 0, fun _ => (0, []))
/-- what is left: a run of the law, in pure words -/
def xPure (xs : List Int32) : Prop := ∃ (d n : Nat) (z : xR), d + 1 ≤ 1400 ∧ xRun (xTa xs) (xCall (xTa xs) d) 234 n (0, xloc [.retAddr 0] 4, [], xh0) z ∧ z.1 = some (.int 1) ∧ z.2.1 ≤ 600000 ∧ z.2.2.1 ≤ 7302250
/-- the texts' places in the law's own words -/
def xtm (i : Nat) : Term := .string (xSt.getD i ("", 0, "")).1 (xSt.getD i ("", 0, "")).2.1
def xfl0 : List Cond := flatC (Jvm.Cond.and given_1 narrow_1)
set_option maxRecDepth 100000 in
theorem xt_ex : ∀ i, i < 9 → Cond.exactly (xtm i) "java/lang/String" ∈ xfl0 := by decide +kernel
set_option maxRecDepth 100000 in
theorem xt_co : ∀ i, i < 9 → Cond.eq (.field (xtm i) "java/lang/String" "coder" "B") (.int 0) ∈ xfl0 := by decide +kernel
set_option maxRecDepth 100000 in
theorem xt_ar : ∀ i, i < 9 → Cond.arrayOf (.field (xtm i) "java/lang/String" "value" "[B") .byte ∈ xfl0 := by decide +kernel
set_option maxRecDepth 100000 in
theorem xt_le : ∀ i, i < 9 → Cond.eq (.length (.field (xtm i) "java/lang/String" "value" "[B")) (.int (Int32.ofNat ((xQ0.map List.length).getD i 0))) ∈ xfl0 := by decide +kernel
set_option maxRecDepth 100000 in
theorem xt_el : ∀ i, i < 9 → ∀ j, j < (xQ0.map List.length).getD i 0 → Cond.eq (.elem (.field (xtm i) "java/lang/String" "value" "[B") (.int (Int32.ofNat j))) (.int ((xQ0.getD i []).getD j 0)) ∈ xfl0 := by decide +kernel
set_option maxRecDepth 100000 in
theorem xt_ne : ∀ i, i < 9 → ∀ j, j < 9 → i ≠ j → Cond.not (Cond.eq (xtm i) (xtm j)) ∈ xfl0 ∨ Cond.not (Cond.eq (xtm j) (xtm i)) ∈ xfl0 := by decide +kernel
set_option maxRecDepth 100000 in
theorem xt_cs : Cond.eq (.static "java/lang/String" "COMPACT_STRINGS" "Z") (.int 1) ∈ xfl0 ∧ Cond.isRef (.static "jdk/internal/util/Preconditions" "SIOOBE_FORMATTER" "Ljava/util/function/BiFunction;") ∈ xfl0 := by decide +kernel
set_option maxRecDepth 100000 in
theorem xt_tb : Cond.laysStatic "java/lang/String" "COMPACT_STRINGS" "Z" ∈ lw_tbl ∧ Cond.initialized "java/lang/String" ∈ lw_tbl ∧ Cond.laysStatic "jdk/internal/util/Preconditions" "SIOOBE_FORMATTER" "Ljava/util/function/BiFunction;" ∈ lw_tbl ∧ Cond.initialized "jdk/internal/util/Preconditions" ∈ lw_tbl := by decide +kernel
set_option maxHeartbeats 4000000 in
theorem x_whole {p : Program} {e : Env} {s : State} {m : MethodId} {below : List Frame} {meth : Method} {c : Code} (l : Launch) {b L : Nat} {xs : Nat → Int32} (C0 : lw_At p s m meth c b L xs) (hp : xPure ((List.range L).map xs)) : W p l e room_1 s m #[Value.ref b] below meth c s.heap [] 0 0 (lw_Z below #[Value.ref b] s) (entryFrame m ([Value.ref b] : List Value).toArray 4) := by
  obtain ⟨hx, hb, hr, hml, hown, hts0, hX, hbl, hlocks, hgv⟩ := C0
  obtain ⟨d, n, z, hd, hrun, hz1, hz2, hz3⟩ := hp
  have hts : ∀ w ∈ xTs, w.before #[Value.ref b] s = true := fun w hw => hts0 w (List.mem_filter.mp hw).1
  generalize hxs : (List.range L).map xs = ys at hrun
  have hO := xOK0 ys
  have hkn : ∀ k : Nat, ∃ q : ClassId × (Nat → Nat), ∀ r, xL0[k]? = some r → u_Kn s r.1 r.2.1 r.2.2 q.1 q.2 := by
    intro k
    cases hk : xL0[k]? with
    | none => exact ⟨(0, fun _ => 0), fun r h => by cases h⟩
    | some r0 =>
      obtain ⟨C, F, N⟩ := r0
      obtain ⟨l1, l2, l3, l4, l5, l6⟩ := hO.2.2.1 k C F N hk
      obtain ⟨cC, iS, h⟩ := u_known (C := C) (T := F) (N := N) (n := N) hts l1 (hts _ l5)
      exact ⟨(cC, iS), fun r h9 => by cases h9; exact h⟩
  obtain ⟨dd, hdd⟩ := Classical.axiomOfChoice hkn
  have hao : ∀ k ∈ xAO, va_AO k s := by
    intro k hk
    have h4 : ∀ k ∈ xAO, Cond.arrayOver (.object k) ∈ lw_tbl := by decide +kernel
    exact va_AO.of (hts0 _ (h4 k hk))
  have hac : ∀ tg : Nat, ∃ q : ClassId, (tg = 12 → xA1 s q .byte) ∧ (tg = 13 → xA1 s q .int) ∧ (tg = 14 → xA1 s q .boolean) ∧ (15 ≤ tg → tg < 19 → xA1 s q (.object (xE0 tg))) := by
    intro tg
    by_cases h12 : tg = 12
    · obtain ⟨q, hq⟩ := xA1_prim (ty := .byte) (fun n h => by cases h) (hts _ x_arr.1)
      exact ⟨q, fun _ => hq, fun h => by omega, fun h => by omega, fun h => by omega⟩
    by_cases h13 : tg = 13
    · obtain ⟨q, hq⟩ := xA1_prim (ty := .int) (fun n h => by cases h) (hts _ x_arr.2.1)
      exact ⟨q, fun h => by omega, fun _ => hq, fun h => by omega, fun h => by omega⟩
    by_cases h14 : tg = 14
    · obtain ⟨q, hq⟩ := xA1_prim (ty := .boolean) (fun n h => by cases h) (hts _ x_arr.2.2)
      exact ⟨q, fun h => by omega, fun h => by omega, fun _ => hq, fun h => by omega⟩
    by_cases h15 : 15 ≤ tg ∧ tg < 19
    · have hm : xE0 tg ∈ xAO := by
        rcases (show tg = 15 ∨ tg = 16 ∨ tg = 17 ∨ tg = 18 by omega) with rfl | rfl | rfl | rfl <;> decide +kernel
      obtain ⟨q, hq⟩ := xA1_obj (hao _ hm)
      exact ⟨q, fun h => by omega, fun h => by omega, fun h => by omega, fun _ _ => hq⟩
    · exact ⟨0, fun h => by omega, fun h => by omega, fun h => by omega, fun h1 h2 => absurd ⟨h1, h2⟩ h15⟩
  obtain ⟨ac, hac⟩ := Classical.axiomOfChoice hac
  have hfl : ∀ w ∈ xfl0, w.before #[Value.ref b] s = true := flat_of_before _ hgv
  obtain ⟨adK, adV, hS9, hA9⟩ := vk_Sof (args := #[Value.ref b]) (s := s) (N := 9) (tm := xtm) (len := xQ0.map List.length) (byt := xQ0) (A := fun z => s.heap.size ≤ z) (by decide) (fun i hi => hfl _ (xt_ex i hi)) (fun i hi => hfl _ (xt_co i hi)) (fun i hi => hfl _ (xt_ar i hi)) (fun i hi => hfl _ (xt_le i hi)) (fun i hi j hj => hfl _ (xt_el i hi j hj)) (fun i j hi hj hij => (xt_ne i hi j hj hij).imp (hfl _) (hfl _)) (fun a ha => Nat.not_le.mpr ha)
  have hZ1 : va_Z "java/lang/String" "COMPACT_STRINGS" "Z" (.int 1) (fun z => s.heap.size ≤ z) s s.heap := va_Zof (hts0 _ xt_tb.1) (hts0 _ xt_tb.2.1) (va_eqi (hfl _ xt_cs.1)) (fun a ha => Nat.not_le.mpr ha)
  have hZ2 : ∃ q : Option Nat, va_Z "jdk/internal/util/Preconditions" "SIOOBE_FORMATTER" "Ljava/util/function/BiFunction;" (va_rf q) (fun z => s.heap.size ≤ z) s s.heap := by
    rcases va_Zqof (A := fun z => s.heap.size ≤ z) (hts0 _ xt_tb.2.2.1) (hts0 _ xt_tb.2.2.2) (hfl _ xt_cs.2) (fun a ha => Nat.not_le.mpr ha) with h9 | ⟨t, h9⟩
    · exact ⟨none, h9⟩
    · exact ⟨some t, h9⟩
  obtain ⟨qz, hZ2⟩ := hZ2
  obtain ⟨tx, htx⟩ : ∃ tx : Nat → Option Nat, tx = fun k => if k < 100 then some (adK k) else if k < 200 then some (adV (k - 100)) else qz := ⟨_, rfl⟩
  have htx1 : ∀ k : Nat, k < 9 → tx k = some (adK k) ∧ tx (100 + k) = some (adV k) := by
    intro k hk
    subst htx
    dsimp only
    rw [if_pos (by omega), if_neg (by omega), if_pos (by omega), Nat.add_sub_cancel_left]
    exact ⟨rfl, rfl⟩
  have htx2 : tx 200 = qz := by
    subst htx
    rfl
  have hTx : xTx (xTa ys) (s.heap.size, b, ac, tx) s s.heap := ⟨⟨adK, adV, hS9, htx1⟩, hZ1, by show va_Z _ _ _ (va_rf (tx 200)) _ _ _; rw [htx2]; exact hZ2⟩
  have hE : xEnv (xTa ys) (s.heap.size, b, ac, tx) (fun k => (dd k).1, fun k => (dd k).2) xNs xAO s := by
    refine ⟨⟨fun k r hk => hdd k r hk, fun k q hk => ?_⟩, fun w hw => ?_, hao, fun mi mt hM idx k hk => ?_⟩
    · match k, hk with
      | 0, hk => cases hk; exact (hac 12).1 rfl
      | 1, hk => cases hk; exact (hac 13).2.1 rfl
      | 2, hk => cases hk; exact (hac 14).2.2.1 rfl
      | 3, hk => cases hk; exact (hac 15).2.2.2 (by omega) (by omega)
      | 4, hk => cases hk; exact (hac 16).2.2.2 (by omega) (by omega)
      | 5, hk => cases hk; exact (hac 17).2.2.2 (by omega) (by omega)
      | 6, hk => cases hk; exact (hac 18).2.2.2 (by omega) (by omega)
      | k + 7, hk => simp [xtys] at hk
    · have h1 := hts0 w (List.mem_filter.mp hw).1
      rcases xNs_ok w hw with ⟨_, _, _, _, _, _, rfl⟩ | ⟨_, _, _, _, rfl⟩
      · exact va_Nw.of rfl h1
      · exact va_Nw.of rfl h1
    · replace hk : xlk xS0 mi idx = some k := hk
      replace hM : xM0[mi]? = some mt := hM
      obtain ⟨hi, q, he⟩ := xlk_spec hk
      have hc := List.all_eq_true.mp xS0_ok _ he
      obtain ⟨ho, hm⟩ := x_key hM hi
      unfold xchS at hc
      dsimp only at hc
      rw [ho, hm] at hc
      split at hc
      · rename_i o i tx9 hq
        simp only [Bool.and_eq_true, decide_eq_true_eq] at hc
        obtain ⟨⟨rfl, rfl⟩, c3⟩ := hc
        have hk9 : k < 9 := (List.getElem?_eq_some_iff.mp hq).1
        have e9 : xtm k = .string mt.1.cls i := by
          unfold xtm
          rw [List.getD_eq_getElem?_getD, hq]
          rfl
        have h8 := hA9 k hk9
        rw [e9] at h8
        exact ⟨tx9, adK k, (htx1 k hk9).1, vk_R.of (hts0 _ (xw_in c3)) h8⟩
      · cases hc
  have hX2 : va_X b (xtX (xTa ys)).length (fun j => (xtX (xTa ys)).getD j 0) s s.heap := by
    show va_X b ys.length (fun j => ys.getD j 0) s s.heap
    subst hxs
    obtain ⟨scr, g1, g2, g3, g4, g5⟩ := hX
    refine ⟨scr, g1, g2, g3, by simpa using g4, fun j hj => ?_⟩
    have hj2 : j < L := by simpa using hj
    rw [g5 j hj2]
    simp [hj2]
  have hC : xCtx (xTa ys) (s.heap.size, b, ac, tx) (fun k => (dd k).1, fun k => (dd k).2) xNs xAO xTs p s m #[Value.ref b] meth c (⟨"DocFormatLaw", "law", "([I)Z"⟩ : MethodName) code 4 := ⟨hx, hb, hml, hown, hts, hE, ⟨hX2, hTx⟩, hbl, Nat.le_refl _, fun h => absurd h (by decide)⟩
  have hM : xtM (xTa ys) 234 = some (⟨"DocFormatLaw", "law", "([I)Z"⟩, code, 4, some .boolean, 1) := rfl
  have hG := xg_run (mt := (⟨"DocFormatLaw", "law", "([I)Z"⟩, code, 4, some .boolean, 1)) (l := l) (e := e) (below := below) (R := room_1) (h0 := xh0) (Q := lw_Z below #[Value.ref b] s) hC hM hO (d := d) (z := z) ⟨show d + 1 ≤ 2048 by omega, show (d + 1) * 60 ≤ 84000 by omega⟩ ⟨show z.2.1 - 0 ≤ 600000 by omega, show z.2.2.1 - 0 ≤ 7302250 by omega⟩ (xsound hO l d) ?_ n _ ⟨Nat.le_refl _, Nat.le_refl _⟩ hrun
  · rw [lg_entry_eq]
    have h1 := hG s.heap [] _ ⟨rfl, fun k q h => by simp [xW, xh0] at h⟩ va_S.rf (xloc_rel (as := [.retAddr 0]) (n := 4) (by decide))
    exact h1
  · intro pc L2 st ins len hdc hs
    obtain ⟨rfl, hcase⟩ := xDo_ret hs
    clear hs
    rcases hcase with ⟨rfl, hs⟩ | ⟨rfl, hs⟩ | ⟨rfl, hs⟩
    · unfold xret at hs
      rw [hM] at hs
      split at hs
      · rename_i y cc mL ty k x hM3
        split at hs
        · have e1 : some (Value.int x) = z.1 := congrArg Prod.fst (Sum.inr.inj (Sum.inr.inj (Option.some.inj hs)))
          rw [hz1] at e1
          cases e1
          intro H locs ls hP1 hS hl
          refine va_forget (fun q hq => hS.2.2 q hq) ?_
          refine W.widen (k := 600000) (n := 7302250) (by dsimp only [xh0]; omega) (by dsimp only [xh0]; omega) ?_
          exact lw_ret hx hb hr hlocks hdc
        · cases hs
      · cases hs
    · exfalso
      unfold xaret at hs
      rw [hM] at hs
      split at hs
      · rename_i h9
        cases h9
      · cases hs
    · exfalso
      unfold xvret at hs
      rw [hM] at hs
      split at hs
      · rename_i h9
        cases h9
      · cases hs
