def xchM (mi : Nat) : Bool := match xM0[mi]?, xMp0[mi]? with
  | some mt, some q => plainName mt.1.cls && xat q.2.1 (.initialized mt.1.cls) && decide (mt.1.cls ≠ "java/lang/invoke/MethodHandle" ∧ mt.1.cls ≠ "java/lang/invoke/VarHandle" ∧ (parseMethodDescriptor mt.1.desc).map (fun d => d.parameters.length) = some mt.2.2.2.2) && decide (mt.2.2.1 ≤ 40)
  | _, _ => false
set_option maxRecDepth 100000 in
theorem xM0_ok_0 : (List.range 16).all (fun k => xchM (0 + k)) = true := by decide +kernel
set_option maxRecDepth 100000 in
theorem xM0_ok_1 : (List.range 16).all (fun k => xchM (16 + k)) = true := by decide +kernel
set_option maxRecDepth 100000 in
theorem xM0_ok_2 : (List.range 16).all (fun k => xchM (32 + k)) = true := by decide +kernel
set_option maxRecDepth 100000 in
theorem xM0_ok_3 : (List.range 16).all (fun k => xchM (48 + k)) = true := by decide +kernel
set_option maxRecDepth 100000 in
theorem xM0_ok_4 : (List.range 16).all (fun k => xchM (64 + k)) = true := by decide +kernel
set_option maxRecDepth 100000 in
theorem xM0_ok_5 : (List.range 16).all (fun k => xchM (80 + k)) = true := by decide +kernel
set_option maxRecDepth 100000 in
theorem xM0_ok_6 : (List.range 16).all (fun k => xchM (96 + k)) = true := by decide +kernel
set_option maxRecDepth 100000 in
theorem xM0_ok_7 : (List.range 16).all (fun k => xchM (112 + k)) = true := by decide +kernel
set_option maxRecDepth 100000 in
theorem xM0_ok_8 : (List.range 16).all (fun k => xchM (128 + k)) = true := by decide +kernel
set_option maxRecDepth 100000 in
theorem xM0_ok_9 : (List.range 16).all (fun k => xchM (144 + k)) = true := by decide +kernel
set_option maxRecDepth 100000 in
theorem xM0_ok_10 : (List.range 16).all (fun k => xchM (160 + k)) = true := by decide +kernel
set_option maxRecDepth 100000 in
theorem xM0_ok_11 : (List.range 16).all (fun k => xchM (176 + k)) = true := by decide +kernel
set_option maxRecDepth 100000 in
theorem xM0_ok_12 : (List.range 16).all (fun k => xchM (192 + k)) = true := by decide +kernel
set_option maxRecDepth 100000 in
theorem xM0_ok_13 : (List.range 16).all (fun k => xchM (208 + k)) = true := by decide +kernel
set_option maxRecDepth 100000 in
theorem xM0_ok_14 : (List.range 10).all (fun k => xchM (224 + k)) = true := by decide +kernel
theorem xM0_ok : ∀ k, k < 234 → xchM k = true := by
  intro k hk
  by_cases h16 : k < 16
  · have h9 := List.all_eq_true.mp xM0_ok_0 (k - 0) (List.mem_range.mpr (by omega))
    rwa [show 0 + (k - 0) = k by omega] at h9
  by_cases h32 : k < 32
  · have h9 := List.all_eq_true.mp xM0_ok_1 (k - 16) (List.mem_range.mpr (by omega))
    rwa [show 16 + (k - 16) = k by omega] at h9
  by_cases h48 : k < 48
  · have h9 := List.all_eq_true.mp xM0_ok_2 (k - 32) (List.mem_range.mpr (by omega))
    rwa [show 32 + (k - 32) = k by omega] at h9
  by_cases h64 : k < 64
  · have h9 := List.all_eq_true.mp xM0_ok_3 (k - 48) (List.mem_range.mpr (by omega))
    rwa [show 48 + (k - 48) = k by omega] at h9
  by_cases h80 : k < 80
  · have h9 := List.all_eq_true.mp xM0_ok_4 (k - 64) (List.mem_range.mpr (by omega))
    rwa [show 64 + (k - 64) = k by omega] at h9
  by_cases h96 : k < 96
  · have h9 := List.all_eq_true.mp xM0_ok_5 (k - 80) (List.mem_range.mpr (by omega))
    rwa [show 80 + (k - 80) = k by omega] at h9
  by_cases h112 : k < 112
  · have h9 := List.all_eq_true.mp xM0_ok_6 (k - 96) (List.mem_range.mpr (by omega))
    rwa [show 96 + (k - 96) = k by omega] at h9
  by_cases h128 : k < 128
  · have h9 := List.all_eq_true.mp xM0_ok_7 (k - 112) (List.mem_range.mpr (by omega))
    rwa [show 112 + (k - 112) = k by omega] at h9
  by_cases h144 : k < 144
  · have h9 := List.all_eq_true.mp xM0_ok_8 (k - 128) (List.mem_range.mpr (by omega))
    rwa [show 128 + (k - 128) = k by omega] at h9
  by_cases h160 : k < 160
  · have h9 := List.all_eq_true.mp xM0_ok_9 (k - 144) (List.mem_range.mpr (by omega))
    rwa [show 144 + (k - 144) = k by omega] at h9
  by_cases h176 : k < 176
  · have h9 := List.all_eq_true.mp xM0_ok_10 (k - 160) (List.mem_range.mpr (by omega))
    rwa [show 160 + (k - 160) = k by omega] at h9
  by_cases h192 : k < 192
  · have h9 := List.all_eq_true.mp xM0_ok_11 (k - 176) (List.mem_range.mpr (by omega))
    rwa [show 176 + (k - 176) = k by omega] at h9
  by_cases h208 : k < 208
  · have h9 := List.all_eq_true.mp xM0_ok_12 (k - 192) (List.mem_range.mpr (by omega))
    rwa [show 192 + (k - 192) = k by omega] at h9
  by_cases h224 : k < 224
  · have h9 := List.all_eq_true.mp xM0_ok_13 (k - 208) (List.mem_range.mpr (by omega))
    rwa [show 208 + (k - 208) = k by omega] at h9
  by_cases h234 : k < 234
  · have h9 := List.all_eq_true.mp xM0_ok_14 (k - 224) (List.mem_range.mpr (by omega))
    rwa [show 224 + (k - 224) = k by omega] at h9
  omega
