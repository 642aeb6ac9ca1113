def xA1 (s : State) (q : ClassId) (ty : FieldType) : Prop := ArrOfT s q ty ∧ va_RA s q ty
theorem xA1_prim {s : State} {args : Array Value} {ty : FieldType} (hno : ∀ n, ty ≠ .object n) (h : (Cond.arrayClass ty).before args s = true) : ∃ q, xA1 s q ty := by
  obtain ⟨q, k, comp, h1, h2, h3⟩ := Cond.arrayClass_spec h
  refine ⟨q, fun n z => ⟨(fun k9 h9 => by cases h9), k, h2, comp, h3⟩, ?_⟩
  cases ty <;> first | exact absurd rfl (hno _) | exact h1
theorem xA1_obj {s : State} {n : String} (h : va_AO n s) : ∃ q, xA1 s q (.object n) := by
  obtain ⟨comp, q, k, h1, h2, h3, h4, h5⟩ := Cond.arrayOver_spec h
  exact ⟨q, fun N z => ⟨(fun k9 h9 => by cases h9), k, h3, comp, h4⟩, k, comp, h3, h4, h1, h5⟩
def xh0 : xH := (0, 0, fun _ => (0, []))
/-- what is left: a run of the law, in pure words -/
def xPure (xs : List Int32) : Prop := ∃ (d n : Nat) (z : xR), d + 1 ≤ 1400 ∧ xRun (xTa xs) (xCall (xTa xs) d) 227 n (0, xloc [.retAddr 0] 4, [], xh0) z ∧ z.1 = some (.int 1) ∧ z.2.1 ≤ 600000 ∧ z.2.2.1 ≤ 7302250
set_option maxHeartbeats 4000000 in
theorem x_whole {p : Program} {e : Env} {s : State} {m : MethodId} {below : List Frame} {meth : Method} {c : Code} (l : Launch) {b L : Nat} {xs : Nat → Int32} (C0 : lw_At p s m meth c b L xs) (hp : xPure ((List.range L).map xs)) : W p l e room_1 s m #[Value.ref b] below meth c s.heap [] 0 0 (lw_Z below #[Value.ref b] s) (entryFrame m ([Value.ref b] : List Value).toArray 4) := by
  obtain ⟨hx, hb, hr, hml, hown, hts0, hX, hbl, hlocks, hgv⟩ := C0
  obtain ⟨d, n, z, hd, hrun, hz1, hz2, hz3⟩ := hp
  have hts : ∀ w ∈ xTs, w.before #[Value.ref b] s = true := fun w hw => hts0 w (List.mem_filter.mp hw).1
  generalize hxs : (List.range L).map xs = ys at hrun
  have hO := xOK0 ys
  have hkn : ∀ k : Nat, ∃ q : ClassId × (Nat → Nat), ∀ r, xL0[k]? = some r → u_Kn s r.1 r.2.1 r.2.2 q.1 q.2 := by
    intro k
    cases hk : xL0[k]? with
    | none => exact ⟨(0, fun _ => 0), fun r h => by cases h⟩
    | some r0 =>
      obtain ⟨C, F, N⟩ := r0
      obtain ⟨l1, l2, l3, l4, l5, l6⟩ := hO.2.2.1 k C F N hk
      obtain ⟨cC, iS, h⟩ := u_known (C := C) (T := F) (N := N) (n := N) hts l1 (hts _ l5)
      exact ⟨(cC, iS), fun r h9 => by cases h9; exact h⟩
  obtain ⟨dd, hdd⟩ := Classical.axiomOfChoice hkn
  have hao : ∀ k ∈ xAO, va_AO k s := by
    intro k hk
    have h4 : ∀ k ∈ xAO, Cond.arrayOver (.object k) ∈ lw_tbl := by decide +kernel
    exact va_AO.of (hts0 _ (h4 k hk))
  have hac : ∀ tg : Nat, ∃ q : ClassId, (tg = 12 → xA1 s q .byte) ∧ (tg = 13 → xA1 s q .int) ∧ (tg = 14 → xA1 s q .boolean) ∧ (15 ≤ tg → tg < 19 → xA1 s q (.object (xE0 tg))) := by
    intro tg
    by_cases h12 : tg = 12
    · obtain ⟨q, hq⟩ := xA1_prim (ty := .byte) (fun n h => by cases h) (hts _ x_arr.1)
      exact ⟨q, fun _ => hq, fun h => by omega, fun h => by omega, fun h => by omega⟩
    by_cases h13 : tg = 13
    · obtain ⟨q, hq⟩ := xA1_prim (ty := .int) (fun n h => by cases h) (hts _ x_arr.2.1)
      exact ⟨q, fun h => by omega, fun _ => hq, fun h => by omega, fun h => by omega⟩
    by_cases h14 : tg = 14
    · obtain ⟨q, hq⟩ := xA1_prim (ty := .boolean) (fun n h => by cases h) (hts _ x_arr.2.2)
      exact ⟨q, fun h => by omega, fun h => by omega, fun _ => hq, fun h => by omega⟩
    by_cases h15 : 15 ≤ tg ∧ tg < 19
    · have hm : xE0 tg ∈ xAO := by
        rcases (show tg = 15 ∨ tg = 16 ∨ tg = 17 ∨ tg = 18 by omega) with rfl | rfl | rfl | rfl <;> decide +kernel
      obtain ⟨q, hq⟩ := xA1_obj (hao _ hm)
      exact ⟨q, fun h => by omega, fun h => by omega, fun h => by omega, fun _ _ => hq⟩
    · exact ⟨0, fun h => by omega, fun h => by omega, fun h => by omega, fun h1 h2 => absurd ⟨h1, h2⟩ h15⟩
  obtain ⟨ac, hac⟩ := Classical.axiomOfChoice hac
  have hE : xEnv (xTa ys) (s.heap.size, b, ac, fun _ => 0) (fun k => (dd k).1, fun k => (dd k).2) xNs xAO s := by
    refine ⟨⟨fun k r hk => hdd k r hk, fun k q hk => ?_⟩, fun w hw => ?_, hao⟩
    · match k, hk with
      | 0, hk => cases hk; exact (hac 12).1 rfl
      | 1, hk => cases hk; exact (hac 13).2.1 rfl
      | 2, hk => cases hk; exact (hac 14).2.2.1 rfl
      | 3, hk => cases hk; exact (hac 15).2.2.2 (by omega) (by omega)
      | 4, hk => cases hk; exact (hac 16).2.2.2 (by omega) (by omega)
      | 5, hk => cases hk; exact (hac 17).2.2.2 (by omega) (by omega)
      | 6, hk => cases hk; exact (hac 18).2.2.2 (by omega) (by omega)
      | k + 7, hk => simp [xtys] at hk
    · have h1 := hts0 w (List.mem_filter.mp hw).1
      rcases xNs_ok w hw with ⟨_, _, _, _, _, _, rfl⟩ | ⟨_, _, _, _, rfl⟩
      · exact va_Nw.of rfl h1
      · exact va_Nw.of rfl h1
  have hX2 : va_X b (xtX (xTa ys)).length (fun j => (xtX (xTa ys)).getD j 0) s s.heap := by
    show va_X b ys.length (fun j => ys.getD j 0) s s.heap
    subst hxs
    obtain ⟨scr, g1, g2, g3, g4, g5⟩ := hX
    refine ⟨scr, g1, g2, g3, by simpa using g4, fun j hj => ?_⟩
    have hj2 : j < L := by simpa using hj
    rw [g5 j hj2]
    simp [hj2]
  have hC : xCtx (xTa ys) (s.heap.size, b, ac, fun _ => 0) (fun k => (dd k).1, fun k => (dd k).2) xNs xAO xTs p s m #[Value.ref b] meth c (⟨"DocFormatLaw", "law", "([I)Z"⟩ : MethodName) code 4 := ⟨hx, hb, hml, hown, hts, hE, hX2, hbl, Nat.le_refl _, fun h => absurd h (by decide)⟩
  have hM : xtM (xTa ys) 227 = some (⟨"DocFormatLaw", "law", "([I)Z"⟩, code, 4, some .boolean, 1) := rfl
  have hG := xg_run (mt := (⟨"DocFormatLaw", "law", "([I)Z"⟩, code, 4, some .boolean, 1)) (l := l) (e := e) (below := below) (R := room_1) (h0 := xh0) (Q := lw_Z below #[Value.ref b] s) hC hM hO (d := d) (z := z) ⟨show d + 1 ≤ 2048 by omega, show (d + 1) * 60 ≤ 84000 by omega⟩ ⟨show z.2.1 - 0 ≤ 600000 by omega, show z.2.2.1 - 0 ≤ 7302250 by omega⟩ (xsound hO l d) ?_ n _ ⟨Nat.le_refl _, Nat.le_refl _⟩ hrun
  · rw [lg_entry_eq]
    have h1 := hG s.heap [] _ ⟨rfl, fun k q h => by simp [xW, xh0] at h⟩ va_S.rf (xloc_rel (as := [.retAddr 0]) (n := 4) (by decide))
    exact h1
  · intro pc L2 st ins len hdc hs
    obtain ⟨rfl, hcase⟩ := xDo_ret hs
    clear hs
    rcases hcase with ⟨rfl, hs⟩ | ⟨rfl, hs⟩ | ⟨rfl, hs⟩
    · unfold xret at hs
      rw [hM] at hs
      split at hs
      · rename_i y cc mL ty k x hM3
        split at hs
        · have e1 : some (Value.int x) = z.1 := congrArg Prod.fst (Sum.inr.inj (Sum.inr.inj (Option.some.inj hs)))
          rw [hz1] at e1
          cases e1
          intro H locs ls hP1 hS hl
          refine va_forget (fun q hq => hS.2.2 q hq) ?_
          refine W.widen (k := 600000) (n := 7302250) (by dsimp only [xh0]; omega) (by dsimp only [xh0]; omega) ?_
          exact lw_ret hx hb hr hlocks hdc
        · cases hs
      · cases hs
    · exfalso
      unfold xaret at hs
      rw [hM] at hs
      split at hs
      · rename_i h9
        cases h9
      · cases hs
    · exfalso
      unfold xvret at hs
      rw [hM] at hs
      split at hs
      · rename_i h9
        cases h9
      · cases hs
