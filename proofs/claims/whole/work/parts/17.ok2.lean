def xchC (e : Nat × Nat × Nat) : Bool := match xL0[e.2.1]? with
  | some (n, _, _) => xat e.2.2 (.classLink (xown e.1) (e.1 % 2000) n)
  | none => false
set_option maxRecDepth 100000 in
theorem xC0_ok : xC0.all xchC = true := by decide +kernel
def xchA (e : Nat × Nat × Nat) : Bool := xat e.2.2 (.classLink (xown e.1) (e.1 % 2000) (xE0 e.2.1)) && decide (xE0 e.2.1 ∈ xAO)
set_option maxRecDepth 100000 in
theorem xA0_ok : xA0.all xchA = true := by decide +kernel
def xchJ (e : Nat × Int64 × Nat) : Bool := xat e.2.2 (.constantLong (xown e.1) (e.1 % 2000) e.2.1)
set_option maxRecDepth 100000 in
theorem xJ0_ok : xJ0.all xchJ = true := by decide +kernel
def xchS (e : Nat × Nat × Nat) : Bool := match xSt[e.2.1]? with
  | some (o, i, tx) => decide (o = xown e.1) && decide (i = e.1 % 2000) && decide (xw e.2.2 = some (.stringRef o i tx))
  | none => false
set_option maxRecDepth 100000 in
theorem xS0_ok : xS0.all xchS = true := by decide +kernel
/-- every method: its unit, and (but the law) what a call of it needs -/
def xchU (mi : Nat) : Bool := match xM0[mi]? with
  | some mt => decide (mt.1.cls = xN0.getD (xunit mi % 100) "") && (decide (xunit mi < 100) || decide (mt.1.name = "<init>"))
  | none => false
set_option maxRecDepth 100000 in
theorem xU0_ok_0 : (List.range 60).all (fun k => xchU (0 + k)) = true := by decide +kernel
set_option maxRecDepth 100000 in
theorem xU0_ok_1 : (List.range 60).all (fun k => xchU (60 + k)) = true := by decide +kernel
set_option maxRecDepth 100000 in
theorem xU0_ok_2 : (List.range 60).all (fun k => xchU (120 + k)) = true := by decide +kernel
set_option maxRecDepth 100000 in
theorem xU0_ok_3 : (List.range 55).all (fun k => xchU (180 + k)) = true := by decide +kernel
theorem xU0_ok : ∀ k, k < 235 → xchU k = true := by
  intro k hk
  by_cases h60 : k < 60
  · have h9 := List.all_eq_true.mp xU0_ok_0 (k - 0) (List.mem_range.mpr (by omega))
    rwa [show 0 + (k - 0) = k by omega] at h9
  by_cases h120 : k < 120
  · have h9 := List.all_eq_true.mp xU0_ok_1 (k - 60) (List.mem_range.mpr (by omega))
    rwa [show 60 + (k - 60) = k by omega] at h9
  by_cases h180 : k < 180
  · have h9 := List.all_eq_true.mp xU0_ok_2 (k - 120) (List.mem_range.mpr (by omega))
    rwa [show 120 + (k - 120) = k by omega] at h9
  by_cases h235 : k < 235
  · have h9 := List.all_eq_true.mp xU0_ok_3 (k - 180) (List.mem_range.mpr (by omega))
    rwa [show 180 + (k - 180) = k by omega] at h9
  omega
