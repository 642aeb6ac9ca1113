def xchF (e : Nat × (Nat × Nat × Nat) × Nat) : Bool := if 20 ≤ e.2.1.1 then xat e.2.2 (.fieldLink (xown e.1) (e.1 % 2000) (xfs e.2.1.1 e.2.1.2.1).1 (xfs e.2.1.1 e.2.1.2.1).2.1 (xfs e.2.1.1 e.2.1.2.1).2.2) else match xL0[e.2.1.1]? with
  | some (_, F, N) => decide (e.2.1.2.1 < N) && (if e.2.1.2.2 = 2 ∨ e.2.1.2.2 = 4 then xatn e.2.2 (.fieldLinkNest (xown e.1) (e.1 % 2000) (F e.2.1.2.1).1 (F e.2.1.2.1).2.1 (F e.2.1.2.1).2.2.1 "DocFormat") else xat e.2.2 (.fieldLink (xown e.1) (e.1 % 2000) (F e.2.1.2.1).1 (F e.2.1.2.1).2.1 (F e.2.1.2.1).2.2.1)) && (decide (e.2.1.2.2 = 0 ∨ e.2.1.2.2 = 2 → (F e.2.1.2.1).2.2.2 = false)) && (decide (e.2.1.2.2 = 1 → (F e.2.1.2.1).2.2.2 = true ∧ 200000 ≤ e.1 ∧ (F e.2.1.2.1).1 = xown e.1)) && decide (e.2.1.2.2 < 5)
  | none => false
set_option maxRecDepth 100000 in
theorem xF0_ok_0 : (List.range 60).all (fun k => (fun k => match xF0[k]? with | some e => xchF e | none => false) (0 + k)) = true := by decide +kernel
set_option maxRecDepth 100000 in
theorem xF0_ok_1 : (List.range 60).all (fun k => (fun k => match xF0[k]? with | some e => xchF e | none => false) (60 + k)) = true := by decide +kernel
set_option maxRecDepth 100000 in
theorem xF0_ok_2 : (List.range 60).all (fun k => (fun k => match xF0[k]? with | some e => xchF e | none => false) (120 + k)) = true := by decide +kernel
set_option maxRecDepth 100000 in
theorem xF0_ok_3 : (List.range 60).all (fun k => (fun k => match xF0[k]? with | some e => xchF e | none => false) (180 + k)) = true := by decide +kernel
set_option maxRecDepth 100000 in
theorem xF0_ok_4 : (List.range 60).all (fun k => (fun k => match xF0[k]? with | some e => xchF e | none => false) (240 + k)) = true := by decide +kernel
set_option maxRecDepth 100000 in
theorem xF0_ok_5 : (List.range 30).all (fun k => (fun k => match xF0[k]? with | some e => xchF e | none => false) (300 + k)) = true := by decide +kernel
theorem xF0_ok : ∀ k, k < 330 → (fun k => match xF0[k]? with | some e => xchF e | none => false) k = true := by
  intro k hk
  by_cases h60 : k < 60
  · have h9 := List.all_eq_true.mp xF0_ok_0 (k - 0) (List.mem_range.mpr (by omega))
    rwa [show 0 + (k - 0) = k by omega] at h9
  by_cases h120 : k < 120
  · have h9 := List.all_eq_true.mp xF0_ok_1 (k - 60) (List.mem_range.mpr (by omega))
    rwa [show 60 + (k - 60) = k by omega] at h9
  by_cases h180 : k < 180
  · have h9 := List.all_eq_true.mp xF0_ok_2 (k - 120) (List.mem_range.mpr (by omega))
    rwa [show 120 + (k - 120) = k by omega] at h9
  by_cases h240 : k < 240
  · have h9 := List.all_eq_true.mp xF0_ok_3 (k - 180) (List.mem_range.mpr (by omega))
    rwa [show 180 + (k - 180) = k by omega] at h9
  by_cases h300 : k < 300
  · have h9 := List.all_eq_true.mp xF0_ok_4 (k - 240) (List.mem_range.mpr (by omega))
    rwa [show 240 + (k - 240) = k by omega] at h9
  by_cases h330 : k < 330
  · have h9 := List.all_eq_true.mp xF0_ok_5 (k - 300) (List.mem_range.mpr (by omega))
    rwa [show 300 + (k - 300) = k by omega] at h9
  omega
