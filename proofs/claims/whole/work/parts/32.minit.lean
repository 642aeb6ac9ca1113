section XMINIT
def mSz : List Nat := [600, 0, 0, 40, 40, 40, 40, 400, 40, 40, 1600, 160, 24600, 41, 41, 41, 984, 984, 984, 984, 984, 984, 984, 984, 4920, 4920, 4920, 4920, 4920, 4920, 4920, 0, 0, 0, 0, 0, 0, 0, 0, 0, 0, 0, 0, 0, 4000, 0, 4001, 0, 0, 0, 40, 0, 4000, 0, 4001, 0, 0, 0, 40, 0, 3000, 0, 130, 0, 130, 131, 1000, 1000, 0, 42, 42, 200, 200, 0]
def mTo : List Nat := [0, 600, 640, 680, 720, 760, 1160, 1200, 1240, 2840, 3000, 27600, 27641, 27682, 27723, 28707, 29691, 30675, 31659, 32643, 33627, 34611, 35595, 40515, 45435, 50355, 55275, 60195, 65115, 70035, 74035, 78036, 78076, 82076, 86077, 86117, 89117, 89247, 89377, 89508, 90508, 91508, 91550, 91592, 91792, 91992]
def mIV (m j k : Nat) : Value := if mO k = 0 then .int 0 else if mO k ≤ j then .ref (m + mO k) else .null
/-- the reference's object while it is made: j arrays are there -/
def PM (h0 h : xH) (m j : Nat) : Prop := h.1 = m + 1 + j ∧ h.2.1 = h0.2.1 + mTo.getD j 0 ∧ h.2.2 m = (11, (List.range 74).map (mIV m j)) ∧ (∀ k, k < 74 → mO k ≠ 0 → mO k ≤ j → h.2.2 (m + mO k) = (mT k, List.replicate (mSz.getD k 0) (.int 0))) ∧ ∀ a, a < m → h.2.2 a = h0.2.2 a
theorem xnA_of {h : xH} {tg : Nat} {v : Value} {n : Nat} (hn : n * 8 ≤ 536870912) : xnA h tg v (nI n) = some (xnew h (tg, List.replicate n v)) := by
  unfold xnA
  rw [if_pos ⟨nI_pos (by omega), by rw [nI_clamp (by omega)]; exact hn⟩, nI_clamp (by omega)]
theorem xnew_at {h : xH} {c : Nat × List Value} : (xnew h c).2.2 h.1 = c := by simp [xnew]
theorem xnew_ne {h : xH} {c : Nat × List Value} {a : Nat} (ha : a ≠ h.1) : (xnew h c).2.2 a = h.2.2 a := by simp [xnew, ha]
theorem PM.step {h0 h : xH} {m j : Nat} (P : PM h0 h m j) (k n : Nat) (ty : FieldType) (hk : k < 74) (ho : mO k = j + 1) (hs : mSz.getD k 0 = n) (ht : mTo.getD (j + 1) 0 = mTo.getD j 0 + n) (hn : n * 8 ≤ 536870912) (hf : fits ty (.ref 0) = true) : ∃ h1 h2, xnA h (mT k) (.int 0) (nI n) = some h1 ∧ xpF h1 (some m) 11 k ty (xrv (some h.1)) = some h2 ∧ PM h0 h2 m (j + 1) := by
  obtain ⟨p1, p2, p3, p4, p5⟩ := P
  have hc : (xnew h (mT k, List.replicate n (.int 0))).2.2 m = (11, (List.range 74).map (mIV m j)) := by rw [xnew_ne (by omega)]; exact p3
  refine ⟨_, _, xnA_of hn, xpF_of hc (show m < h.1 + 1 by omega) (by omega) (by simp; exact hk) (show xfit ty (.ref h.1) = true from hf), ?_, ?_, ?_, ?_, ?_⟩
  · show h.1 + 1 = _
    omega
  · show h.2.1 + (List.replicate n (Value.int 0)).length = _
    rw [List.length_replicate]
    omega
  · rw [xset_at]
    congr 1
    apply List.ext_getElem?
    intro i
    rw [List.getElem?_set]
    by_cases hik : k = i
    · subst hik
      rw [if_pos rfl, if_pos (by simp; exact hk)]
      simp only [List.getElem?_map, List.getElem?_range hk, Option.map_some]
      unfold mIV xrv
      rw [if_neg (by omega), if_pos (by omega), show h.1 = m + mO k by omega]
    · rw [if_neg hik]
      by_cases hi : i < 74
      · have hne : mO i ≠ 0 → mO i ≠ j + 1 := fun h9 h8 => hik (mO_inj i hi k hk h9 (by omega)).symm
        simp only [List.getElem?_map, List.getElem?_range hi, Option.map_some]
        unfold mIV
        by_cases h0 : mO i = 0
        · simp [h0]
        · have := hne h0
          by_cases h9 : mO i ≤ j
          · simp [h0, h9, show mO i ≤ j + 1 by omega]
          · simp [h0, h9, show ¬ mO i ≤ j + 1 by omega]
      · simp [hi]
  · intro i hi h9 h8
    rw [xset_ne (by omega)]
    by_cases hij : mO i = j + 1
    · have hik : i = k := mO_inj i hi k hk h9 (by omega)
      subst hik
      rw [show m + mO i = h.1 by omega, xnew_at, hs]
    · rw [xnew_ne (by omega)]
      exact p4 i hi h9 (by omega)
  · intro a ha
    rw [xset_ne (by omega), xnew_ne (by omega)]
    exact p5 a ha
theorem x_bS {α β : Type} {a : Option α} {x : α} {f : α → Option β} {r : Option β} (e : a = some x) (k : f x = r) : a.bind f = r := by rw [e]; exact k
def S0 : xS := (fun _ => 0, fun k => List.replicate (mSz.getD k 0) (.int 0))
theorem mIV_45 {m k : Nat} (hk : k < 74) : mIV m 45 k = mV m S0 k := by
  unfold mIV mV
  rw [if_pos (mO_le k hk)]
  rfl
set_option maxHeartbeats 4000000 in
theorem fn140_spec {h0 : xH} {m : Nat} (P0 : PM h0 h0 m 0) : ∃ h', fn140 (some m) h0 = some h' ∧ RM h' m S0 ∧ h'.1 = m + 46 ∧ h'.2.1 = h0.2.1 + 91992 ∧ ∀ a, a < m → h'.2.2 a = h0.2.2 a := by
  obtain ⟨a1, b1, e1, f1, P1⟩ := P0.step 0 600 (.array .int) (by decide) (by decide) rfl rfl (by decide) rfl
  obtain ⟨a2, b2, e2, f2, P2⟩ := P1.step 3 40 (.array .boolean) (by decide) (by decide) rfl rfl (by decide) rfl
  obtain ⟨a3, b3, e3, f3, P3⟩ := P2.step 4 40 (.array .int) (by decide) (by decide) rfl rfl (by decide) rfl
  obtain ⟨a4, b4, e4, f4, P4⟩ := P3.step 5 40 (.array .int) (by decide) (by decide) rfl rfl (by decide) rfl
  obtain ⟨a5, b5, e5, f5, P5⟩ := P4.step 6 40 (.array .boolean) (by decide) (by decide) rfl rfl (by decide) rfl
  obtain ⟨a6, b6, e6, f6, P6⟩ := P5.step 7 400 (.array .int) (by decide) (by decide) rfl rfl (by decide) rfl
  obtain ⟨a7, b7, e7, f7, P7⟩ := P6.step 8 40 (.array .int) (by decide) (by decide) rfl rfl (by decide) rfl
  obtain ⟨a8, b8, e8, f8, P8⟩ := P7.step 9 40 (.array .int) (by decide) (by decide) rfl rfl (by decide) rfl
  obtain ⟨a9, b9, e9, f9, P9⟩ := P8.step 10 1600 (.array .int) (by decide) (by decide) rfl rfl (by decide) rfl
  obtain ⟨a10, b10, e10, f10, P10⟩ := P9.step 11 160 (.array .int) (by decide) (by decide) rfl rfl (by decide) rfl
  obtain ⟨a11, b11, e11, f11, P11⟩ := P10.step 12 24600 (.array .int) (by decide) (by decide) rfl rfl (by decide) rfl
  obtain ⟨a12, b12, e12, f12, P12⟩ := P11.step 13 41 (.array .int) (by decide) (by decide) rfl rfl (by decide) rfl
  obtain ⟨a13, b13, e13, f13, P13⟩ := P12.step 14 41 (.array .int) (by decide) (by decide) rfl rfl (by decide) rfl
  obtain ⟨a14, b14, e14, f14, P14⟩ := P13.step 15 41 (.array .int) (by decide) (by decide) rfl rfl (by decide) rfl
  obtain ⟨a15, b15, e15, f15, P15⟩ := P14.step 16 984 (.array .int) (by decide) (by decide) rfl rfl (by decide) rfl
  obtain ⟨a16, b16, e16, f16, P16⟩ := P15.step 17 984 (.array .int) (by decide) (by decide) rfl rfl (by decide) rfl
  obtain ⟨a17, b17, e17, f17, P17⟩ := P16.step 18 984 (.array .int) (by decide) (by decide) rfl rfl (by decide) rfl
  obtain ⟨a18, b18, e18, f18, P18⟩ := P17.step 19 984 (.array .int) (by decide) (by decide) rfl rfl (by decide) rfl
  obtain ⟨a19, b19, e19, f19, P19⟩ := P18.step 20 984 (.array .int) (by decide) (by decide) rfl rfl (by decide) rfl
  obtain ⟨a20, b20, e20, f20, P20⟩ := P19.step 21 984 (.array .int) (by decide) (by decide) rfl rfl (by decide) rfl
  obtain ⟨a21, b21, e21, f21, P21⟩ := P20.step 22 984 (.array .int) (by decide) (by decide) rfl rfl (by decide) rfl
  obtain ⟨a22, b22, e22, f22, P22⟩ := P21.step 23 984 (.array .boolean) (by decide) (by decide) rfl rfl (by decide) rfl
  obtain ⟨a23, b23, e23, f23, P23⟩ := P22.step 24 4920 (.array .int) (by decide) (by decide) rfl rfl (by decide) rfl
  obtain ⟨a24, b24, e24, f24, P24⟩ := P23.step 25 4920 (.array .int) (by decide) (by decide) rfl rfl (by decide) rfl
  obtain ⟨a25, b25, e25, f25, P25⟩ := P24.step 26 4920 (.array .int) (by decide) (by decide) rfl rfl (by decide) rfl
  obtain ⟨a26, b26, e26, f26, P26⟩ := P25.step 27 4920 (.array .int) (by decide) (by decide) rfl rfl (by decide) rfl
  obtain ⟨a27, b27, e27, f27, P27⟩ := P26.step 28 4920 (.array .boolean) (by decide) (by decide) rfl rfl (by decide) rfl
  obtain ⟨a28, b28, e28, f28, P28⟩ := P27.step 29 4920 (.array .int) (by decide) (by decide) rfl rfl (by decide) rfl
  obtain ⟨a29, b29, e29, f29, P29⟩ := P28.step 30 4920 (.array .int) (by decide) (by decide) rfl rfl (by decide) rfl
  obtain ⟨a30, b30, e30, f30, P30⟩ := P29.step 44 4000 (.array .int) (by decide) (by decide) rfl rfl (by decide) rfl
  obtain ⟨a31, b31, e31, f31, P31⟩ := P30.step 46 4001 (.array .int) (by decide) (by decide) rfl rfl (by decide) rfl
  obtain ⟨a32, b32, e32, f32, P32⟩ := P31.step 50 40 (.array .int) (by decide) (by decide) rfl rfl (by decide) rfl
  obtain ⟨a33, b33, e33, f33, P33⟩ := P32.step 52 4000 (.array .int) (by decide) (by decide) rfl rfl (by decide) rfl
  obtain ⟨a34, b34, e34, f34, P34⟩ := P33.step 54 4001 (.array .int) (by decide) (by decide) rfl rfl (by decide) rfl
  obtain ⟨a35, b35, e35, f35, P35⟩ := P34.step 58 40 (.array .int) (by decide) (by decide) rfl rfl (by decide) rfl
  obtain ⟨a36, b36, e36, f36, P36⟩ := P35.step 60 3000 (.array .int) (by decide) (by decide) rfl rfl (by decide) rfl
  obtain ⟨a37, b37, e37, f37, P37⟩ := P36.step 62 130 (.array .int) (by decide) (by decide) rfl rfl (by decide) rfl
  obtain ⟨a38, b38, e38, f38, P38⟩ := P37.step 64 130 (.array .int) (by decide) (by decide) rfl rfl (by decide) rfl
  obtain ⟨a39, b39, e39, f39, P39⟩ := P38.step 65 131 (.array .int) (by decide) (by decide) rfl rfl (by decide) rfl
  obtain ⟨a40, b40, e40, f40, P40⟩ := P39.step 66 1000 (.array .int) (by decide) (by decide) rfl rfl (by decide) rfl
  obtain ⟨a41, b41, e41, f41, P41⟩ := P40.step 67 1000 (.array .int) (by decide) (by decide) rfl rfl (by decide) rfl
  obtain ⟨a42, b42, e42, f42, P42⟩ := P41.step 69 42 (.array .int) (by decide) (by decide) rfl rfl (by decide) rfl
  obtain ⟨a43, b43, e43, f43, P43⟩ := P42.step 70 42 (.array .int) (by decide) (by decide) rfl rfl (by decide) rfl
  obtain ⟨a44, b44, e44, f44, P44⟩ := P43.step 71 200 (.array .int) (by decide) (by decide) rfl rfl (by decide) rfl
  obtain ⟨a45, b45, e45, f45, P45⟩ := P44.step 72 200 (.array .int) (by decide) (by decide) rfl rfl (by decide) rfl
  refine ⟨b45, ?_, ⟨?_, ?_, fun k hk h9 => ⟨?_, ?_⟩⟩, P45.1, P45.2.1, P45.2.2.2.2⟩
  · unfold fn140
    refine x_bS (x := m) rfl ?_
    refine x_bS (show xnA h0 13 (.int 0) 600 = some a1 from e1) ?_
    refine x_bS f1 ?_
    refine x_bS (show xnA b1 14 (.int 0) 40 = some a2 from e2) ?_
    refine x_bS f2 ?_
    refine x_bS (show xnA b2 13 (.int 0) 40 = some a3 from e3) ?_
    refine x_bS f3 ?_
    refine x_bS (show xnA b3 13 (.int 0) 40 = some a4 from e4) ?_
    refine x_bS f4 ?_
    refine x_bS (show xnA b4 14 (.int 0) 40 = some a5 from e5) ?_
    refine x_bS f5 ?_
    refine x_bS (show xnA b5 13 (.int 0) 400 = some a6 from e6) ?_
    refine x_bS f6 ?_
    refine x_bS (show xnA b6 13 (.int 0) 40 = some a7 from e7) ?_
    refine x_bS f7 ?_
    refine x_bS (show xnA b7 13 (.int 0) 40 = some a8 from e8) ?_
    refine x_bS f8 ?_
    refine x_bS (show xnA b8 13 (.int 0) 1600 = some a9 from e9) ?_
    refine x_bS f9 ?_
    refine x_bS (show xnA b9 13 (.int 0) 160 = some a10 from e10) ?_
    refine x_bS f10 ?_
    refine x_bS (show xnA b10 13 (.int 0) 24600 = some a11 from e11) ?_
    refine x_bS f11 ?_
    refine x_bS (show xnA b11 13 (.int 0) 41 = some a12 from e12) ?_
    refine x_bS f12 ?_
    refine x_bS (show xnA b12 13 (.int 0) 41 = some a13 from e13) ?_
    refine x_bS f13 ?_
    refine x_bS (show xnA b13 13 (.int 0) 41 = some a14 from e14) ?_
    refine x_bS f14 ?_
    refine x_bS (show xnA b14 13 (.int 0) 984 = some a15 from e15) ?_
    refine x_bS f15 ?_
    refine x_bS (show xnA b15 13 (.int 0) 984 = some a16 from e16) ?_
    refine x_bS f16 ?_
    refine x_bS (show xnA b16 13 (.int 0) 984 = some a17 from e17) ?_
    refine x_bS f17 ?_
    refine x_bS (show xnA b17 13 (.int 0) 984 = some a18 from e18) ?_
    refine x_bS f18 ?_
    refine x_bS (show xnA b18 13 (.int 0) 984 = some a19 from e19) ?_
    refine x_bS f19 ?_
    refine x_bS (show xnA b19 13 (.int 0) 984 = some a20 from e20) ?_
    refine x_bS f20 ?_
    refine x_bS (show xnA b20 13 (.int 0) 984 = some a21 from e21) ?_
    refine x_bS f21 ?_
    refine x_bS (show xnA b21 14 (.int 0) 984 = some a22 from e22) ?_
    refine x_bS f22 ?_
    refine x_bS (show xnA b22 13 (.int 0) 4920 = some a23 from e23) ?_
    refine x_bS f23 ?_
    refine x_bS (show xnA b23 13 (.int 0) 4920 = some a24 from e24) ?_
    refine x_bS f24 ?_
    refine x_bS (show xnA b24 13 (.int 0) 4920 = some a25 from e25) ?_
    refine x_bS f25 ?_
    refine x_bS (show xnA b25 13 (.int 0) 4920 = some a26 from e26) ?_
    refine x_bS f26 ?_
    refine x_bS (show xnA b26 14 (.int 0) 4920 = some a27 from e27) ?_
    refine x_bS f27 ?_
    refine x_bS (show xnA b27 13 (.int 0) 4920 = some a28 from e28) ?_
    refine x_bS f28 ?_
    refine x_bS (show xnA b28 13 (.int 0) 4920 = some a29 from e29) ?_
    refine x_bS f29 ?_
    refine x_bS (show xnA b29 13 (.int 0) 4000 = some a30 from e30) ?_
    refine x_bS f30 ?_
    refine x_bS (show xnA b30 13 (.int 0) 4001 = some a31 from e31) ?_
    refine x_bS f31 ?_
    refine x_bS (show xnA b31 13 (.int 0) 40 = some a32 from e32) ?_
    refine x_bS f32 ?_
    refine x_bS (show xnA b32 13 (.int 0) 4000 = some a33 from e33) ?_
    refine x_bS f33 ?_
    refine x_bS (show xnA b33 13 (.int 0) 4001 = some a34 from e34) ?_
    refine x_bS f34 ?_
    refine x_bS (show xnA b34 13 (.int 0) 40 = some a35 from e35) ?_
    refine x_bS f35 ?_
    refine x_bS (show xnA b35 13 (.int 0) 3000 = some a36 from e36) ?_
    refine x_bS f36 ?_
    refine x_bS (show xnA b36 13 (.int 0) 130 = some a37 from e37) ?_
    refine x_bS f37 ?_
    refine x_bS (show xnA b37 13 (.int 0) 130 = some a38 from e38) ?_
    refine x_bS f38 ?_
    refine x_bS (show xnA b38 13 (.int 0) 131 = some a39 from e39) ?_
    refine x_bS f39 ?_
    refine x_bS (show xnA b39 13 (.int 0) 1000 = some a40 from e40) ?_
    refine x_bS f40 ?_
    refine x_bS (show xnA b40 13 (.int 0) 1000 = some a41 from e41) ?_
    refine x_bS f41 ?_
    refine x_bS (show xnA b41 13 (.int 0) 42 = some a42 from e42) ?_
    refine x_bS f42 ?_
    refine x_bS (show xnA b42 13 (.int 0) 42 = some a43 from e43) ?_
    refine x_bS f43 ?_
    refine x_bS (show xnA b43 13 (.int 0) 200 = some a44 from e44) ?_
    refine x_bS f44 ?_
    refine x_bS (show xnA b44 13 (.int 0) 200 = some a45 from e45) ?_
    refine x_bS f45 ?_
    rfl
  · rw [P45.1]
    omega
  · rw [P45.2.2.1]
    exact congrArg (Prod.mk 11) (List.map_congr_left (fun k hk => mIV_45 (List.mem_range.mp hk)))
  · exact P45.2.2.2.1 k hk h9 (mO_le k hk)
  · show (List.replicate (mSz.getD k 0) (Value.int 0)).length < 2 ^ 31
    rw [List.length_replicate]
    have : ∀ k, k < 74 → mSz.getD k 0 < 2 ^ 31 := by decide +kernel
    exact this k hk
end XMINIT
