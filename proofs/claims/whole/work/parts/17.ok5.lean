def xchV (e : Nat × (Nat × Nat × Nat) × Nat) : Bool :=
  if e.2.1.1 < 6 then (match xM0[e.2.1.2.1]?, xMp0[e.2.1.2.1]? with
    | some mt, some q => decide (e.2.1.2.1 < 234) && (decide (¬ e.2.1.1 < 2) || (xat q.2.2.1 (.instanceMethod mt.1) && xat q.2.2.2 (.selects mt.1.cls mt.1 mt.1) && (match xL0[e.2.1.2.2]? with
        | some (n, _, _) => decide (n = mt.1.cls)
        | none => false))) &&
      (decide (¬ (e.2.1.1 = 2 ∨ e.2.1.1 = 3)) || (decide (mt.1.name = "<init>") && xat q.2.2.1 (.instanceMethod mt.1) && decide (mt.2.2.2.1 = none))) &&
      (decide (¬ (e.2.1.1 = 4 ∨ e.2.1.1 = 5)) || xat q.2.2.1 (.static mt.1)) &&
      (if e.2.1.1 = 0 ∨ e.2.1.1 = 2 ∨ e.2.1.1 = 4 then xat e.2.2 (.methodLink (xown e.1) (e.1 % 2000) mt.1) else xatn e.2.2 (.methodLinkNest (xown e.1) (e.1 % 2000) mt.1 "DocFormat"))
    | _, _ => false)
  else if e.2.1.1 = 6 then xat e.2.2 (.methodLink (xown e.1) (e.1 % 2000) Lib.objectInit)
  else if e.2.1.1 = 7 then xat e.2.2 (.methodLink (xown e.1) (e.1 % 2000) Lib.Math.max.name)
  else if e.2.1.1 = 8 then xat e.2.2 (.methodLink (xown e.1) (e.1 % 2000) Lib.Math.min.name)
  else if e.2.1.1 = 9 then (match xM0[e.2.1.2.1]?, xMp0[e.2.1.2.1]? with
    | some mt, some q => decide (e.2.1.2.1 < 234) && (xat q.2.2.1 (.instanceMethod mt.1) && xat q.2.2.2 (.selects mt.1.cls mt.1 mt.1) && decide (mt.1.cls = "java/lang/String") && xat e.2.2 (.methodLink (xown e.1) (e.1 % 2000) mt.1))
    | _, _ => false)
  else true
set_option maxRecDepth 100000 in
theorem xV0_ok_0 : (List.range 24).all (fun k => (fun k => match xV0[k]? with | some e => xchV e | none => false) (0 + k)) = true := by decide +kernel
set_option maxRecDepth 100000 in
theorem xV0_ok_1 : (List.range 24).all (fun k => (fun k => match xV0[k]? with | some e => xchV e | none => false) (24 + k)) = true := by decide +kernel
set_option maxRecDepth 100000 in
theorem xV0_ok_2 : (List.range 24).all (fun k => (fun k => match xV0[k]? with | some e => xchV e | none => false) (48 + k)) = true := by decide +kernel
set_option maxRecDepth 100000 in
theorem xV0_ok_3 : (List.range 24).all (fun k => (fun k => match xV0[k]? with | some e => xchV e | none => false) (72 + k)) = true := by decide +kernel
set_option maxRecDepth 100000 in
theorem xV0_ok_4 : (List.range 24).all (fun k => (fun k => match xV0[k]? with | some e => xchV e | none => false) (96 + k)) = true := by decide +kernel
set_option maxRecDepth 100000 in
theorem xV0_ok_5 : (List.range 24).all (fun k => (fun k => match xV0[k]? with | some e => xchV e | none => false) (120 + k)) = true := by decide +kernel
set_option maxRecDepth 100000 in
theorem xV0_ok_6 : (List.range 24).all (fun k => (fun k => match xV0[k]? with | some e => xchV e | none => false) (144 + k)) = true := by decide +kernel
set_option maxRecDepth 100000 in
theorem xV0_ok_7 : (List.range 24).all (fun k => (fun k => match xV0[k]? with | some e => xchV e | none => false) (168 + k)) = true := by decide +kernel
set_option maxRecDepth 100000 in
theorem xV0_ok_8 : (List.range 24).all (fun k => (fun k => match xV0[k]? with | some e => xchV e | none => false) (192 + k)) = true := by decide +kernel
set_option maxRecDepth 100000 in
theorem xV0_ok_9 : (List.range 24).all (fun k => (fun k => match xV0[k]? with | some e => xchV e | none => false) (216 + k)) = true := by decide +kernel
set_option maxRecDepth 100000 in
theorem xV0_ok_10 : (List.range 24).all (fun k => (fun k => match xV0[k]? with | some e => xchV e | none => false) (240 + k)) = true := by decide +kernel
set_option maxRecDepth 100000 in
theorem xV0_ok_11 : (List.range 24).all (fun k => (fun k => match xV0[k]? with | some e => xchV e | none => false) (264 + k)) = true := by decide +kernel
set_option maxRecDepth 100000 in
theorem xV0_ok_12 : (List.range 23).all (fun k => (fun k => match xV0[k]? with | some e => xchV e | none => false) (288 + k)) = true := by decide +kernel
theorem xV0_ok : ∀ k, k < 311 → (fun k => match xV0[k]? with | some e => xchV e | none => false) k = true := by
  intro k hk
  by_cases h24 : k < 24
  · have h9 := List.all_eq_true.mp xV0_ok_0 (k - 0) (List.mem_range.mpr (by omega))
    rwa [show 0 + (k - 0) = k by omega] at h9
  by_cases h48 : k < 48
  · have h9 := List.all_eq_true.mp xV0_ok_1 (k - 24) (List.mem_range.mpr (by omega))
    rwa [show 24 + (k - 24) = k by omega] at h9
  by_cases h72 : k < 72
  · have h9 := List.all_eq_true.mp xV0_ok_2 (k - 48) (List.mem_range.mpr (by omega))
    rwa [show 48 + (k - 48) = k by omega] at h9
  by_cases h96 : k < 96
  · have h9 := List.all_eq_true.mp xV0_ok_3 (k - 72) (List.mem_range.mpr (by omega))
    rwa [show 72 + (k - 72) = k by omega] at h9
  by_cases h120 : k < 120
  · have h9 := List.all_eq_true.mp xV0_ok_4 (k - 96) (List.mem_range.mpr (by omega))
    rwa [show 96 + (k - 96) = k by omega] at h9
  by_cases h144 : k < 144
  · have h9 := List.all_eq_true.mp xV0_ok_5 (k - 120) (List.mem_range.mpr (by omega))
    rwa [show 120 + (k - 120) = k by omega] at h9
  by_cases h168 : k < 168
  · have h9 := List.all_eq_true.mp xV0_ok_6 (k - 144) (List.mem_range.mpr (by omega))
    rwa [show 144 + (k - 144) = k by omega] at h9
  by_cases h192 : k < 192
  · have h9 := List.all_eq_true.mp xV0_ok_7 (k - 168) (List.mem_range.mpr (by omega))
    rwa [show 168 + (k - 168) = k by omega] at h9
  by_cases h216 : k < 216
  · have h9 := List.all_eq_true.mp xV0_ok_8 (k - 192) (List.mem_range.mpr (by omega))
    rwa [show 192 + (k - 192) = k by omega] at h9
  by_cases h240 : k < 240
  · have h9 := List.all_eq_true.mp xV0_ok_9 (k - 216) (List.mem_range.mpr (by omega))
    rwa [show 216 + (k - 216) = k by omega] at h9
  by_cases h264 : k < 264
  · have h9 := List.all_eq_true.mp xV0_ok_10 (k - 240) (List.mem_range.mpr (by omega))
    rwa [show 240 + (k - 240) = k by omega] at h9
  by_cases h288 : k < 288
  · have h9 := List.all_eq_true.mp xV0_ok_11 (k - 264) (List.mem_range.mpr (by omega))
    rwa [show 264 + (k - 264) = k by omega] at h9
  by_cases h311 : k < 311
  · have h9 := List.all_eq_true.mp xV0_ok_12 (k - 288) (List.mem_range.mpr (by omega))
    rwa [show 288 + (k - 288) = k by omega] at h9
  omega
