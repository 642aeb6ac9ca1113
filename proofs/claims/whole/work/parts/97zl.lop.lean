section PLOP
variable {xs : List Int32}
def lwP (z : xH) : Prop := z.1 ≤ 600000 ∧ z.2.1 ≤ 7302250
theorem lwI.p {h : xH} {i : Nat} (I : lwI h i) (hi : i ≤ 512) : lwP h := by
  obtain ⟨C, S, σ, g, a1, a2, a3, a4, a5, a6, a7, a8⟩ := I
  have h1 := a1.1
  have h2 := a1.2.1
  exact ⟨by omega, by omega⟩
/-- one call -/
abbrev lwG (xs : List Int32) (k18 : Option Nat → Option Nat → Int32 → xH → Option (Int32 × xH)) (i : Nat) : Prop := ∀ y, lwI y (i + 1) → EX (j234_724 xs k18 (some 0) (some 178) (nI (6 * i)) y) (fun z => ((1 : Int32), z)) lwP
abbrev lwA (xs : List Int32) (a : Nat → Int32) (i : Nat) : Prop := xsL xs (nI (6 * i) + 1) = some (a 1) ∧ xsL xs (nI (6 * i) + 2) = some (a 2) ∧ xsL xs (nI (6 * i) + 3) = some (a 3) ∧ xsL xs (nI (6 * i) + 4) = some (a 4) ∧ xsL xs (nI (6 * i) + 5) = some (a 5)
theorem lq_0 {k18 : Option Nat → Option Nat → Int32 → xH → Option (Int32 × xH)} {i : Nat} {a : Nat → Int32} {h : xH} (A : lwA xs a i) (I : lwI h i) (G : lwG xs k18 i) : EX ((xsL xs (nI (6 * i) + 1)).bind fun v1_ => (xsL xs (nI (6 * i) + 2)).bind fun v2_ => (xsL xs (nI (6 * i) + 3)).bind fun v3_ => (xsL xs (nI (6 * i) + 4)).bind fun v4_ => (xsL xs (nI (6 * i) + 5)).bind fun v5_ => (xcv h (some 0) 10).bind fun _ => (fn112 (some 0) v1_ v2_ v3_ v4_ v5_ h).bind fun r => (xsL xs (nI (6 * i) + 1)).bind fun v1 => (xsL xs (nI (6 * i) + 2)).bind fun v2 => (xsL xs (nI (6 * i) + 3)).bind fun v3 => (xsL xs (nI (6 * i) + 4)).bind fun v4 => (xsL xs (nI (6 * i) + 5)).bind fun v5 => (xcv r.2 (some 178) 11).bind fun _ => (fn143 (some 178) v1 v2 v3 v4 v5 r.2).bind fun q => (if r.1 = q.1 then j234_724 xs k18 (some 0) (some 178) (nI (6 * i)) q.2 else some (0, q.2))) (fun z => ((1 : Int32), z)) lwP := by
  obtain ⟨e1, e2, e3, e4, e5⟩ := A
  obtain ⟨C, S, σ, g, W, F, R, M, w, t, n1, n2⟩ := I
  obtain ⟨C2, g2, c1, c2, c3, c4⟩ := cc_0 R w a
  obtain ⟨z, z1, z2, z3⟩ := g112_ok W rfl t c1
  have Rz := RF_kp F W z2 c3.1 c3.2.1
  obtain ⟨S2, m1, m2⟩ := mm_0 M w a
  obtain ⟨y, y1, y2, y3⟩ := g143_ok Rz m1
  refine EX.bd e1 ?_
  refine EX.bd e2 ?_
  refine EX.bd e3 ?_
  refine EX.bd e4 ?_
  refine EX.bd e5 ?_
  refine EX.bd (W.cv rfl t (by decide)) ?_
  refine EX.bd z1 ?_
  refine EX.bd e1 ?_
  refine EX.bd e2 ?_
  refine EX.bd e3 ?_
  refine EX.bd e4 ?_
  refine EX.bd e5 ?_
  refine EX.bd Rz.cv ?_
  refine EX.bd y1 ?_
  refine EX.pos rfl ?_
  exact G y (lq_s W F t n1 n2 c2 c3 c4 z2 z3 y2 y3 m2)
theorem lq_1 {k18 : Option Nat → Option Nat → Int32 → xH → Option (Int32 × xH)} {i : Nat} {a : Nat → Int32} {h : xH} (A : lwA xs a i) (I : lwI h i) (G : lwG xs k18 i) : EX ((xsL xs (nI (6 * i) + 1)).bind fun v1_ => (xcv h (some 0) 10).bind fun _ => (fn113 (some 0) v1_ h).bind fun r => (xsL xs (nI (6 * i) + 1)).bind fun v1 => (xcv r.2 (some 178) 11).bind fun _ => (fn144 (some 178) v1 r.2).bind fun q => (if r.1 = q.1 then j234_724 xs k18 (some 0) (some 178) (nI (6 * i)) q.2 else some (0, q.2))) (fun z => ((1 : Int32), z)) lwP := by
  obtain ⟨e1, e2, e3, e4, e5⟩ := A
  obtain ⟨C, S, σ, g, W, F, R, M, w, t, n1, n2⟩ := I
  obtain ⟨C2, g2, c1, c2, c3, c4⟩ := cc_1 R w a
  obtain ⟨z, z1, z2, z3⟩ := g113_ok W rfl t c1
  have Rz := RF_kp F W z2 c3.1 c3.2.1
  obtain ⟨S2, m1, m2⟩ := mm_1 M w a
  obtain ⟨y, y1, y2, y3⟩ := g144_ok Rz m1
  refine EX.bd e1 ?_
  refine EX.bd (W.cv rfl t (by decide)) ?_
  refine EX.bd z1 ?_
  refine EX.bd e1 ?_
  refine EX.bd Rz.cv ?_
  refine EX.bd y1 ?_
  refine EX.pos rfl ?_
  exact G y (lq_s W F t n1 n2 c2 c3 c4 z2 z3 y2 y3 m2)
theorem lq_2 {k18 : Option Nat → Option Nat → Int32 → xH → Option (Int32 × xH)} {i : Nat} {a : Nat → Int32} {h : xH} (A : lwA xs a i) (I : lwI h i) (G : lwG xs k18 i) : EX ((xsL xs (nI (6 * i) + 1)).bind fun v1_ => (xcv h (some 0) 10).bind fun _ => (fn114 (some 0) v1_ h).bind fun r => (xsL xs (nI (6 * i) + 1)).bind fun v1 => (xcv r.2 (some 178) 11).bind fun _ => (fn153 (some 178) v1 r.2).bind fun q => (if r.1 = q.1 then j234_724 xs k18 (some 0) (some 178) (nI (6 * i)) q.2 else some (0, q.2))) (fun z => ((1 : Int32), z)) lwP := by
  obtain ⟨e1, e2, e3, e4, e5⟩ := A
  obtain ⟨C, S, σ, g, W, F, R, M, w, t, n1, n2⟩ := I
  obtain ⟨C2, g2, c1, c2, c3, c4⟩ := cc_2 R w a
  obtain ⟨z, z1, z2, z3⟩ := g114_ok W rfl t c1
  have Rz := RF_kp F W z2 c3.1 c3.2.1
  obtain ⟨S2, m1, m2⟩ := mm_2 M w a
  obtain ⟨y, y1, y2, y3⟩ := g153_ok Rz m1
  refine EX.bd e1 ?_
  refine EX.bd (W.cv rfl t (by decide)) ?_
  refine EX.bd z1 ?_
  refine EX.bd e1 ?_
  refine EX.bd Rz.cv ?_
  refine EX.bd y1 ?_
  refine EX.pos rfl ?_
  exact G y (lq_s W F t n1 n2 c2 c3 c4 z2 z3 y2 y3 m2)
theorem lq_4 {k18 : Option Nat → Option Nat → Int32 → xH → Option (Int32 × xH)} {i : Nat} {a : Nat → Int32} {h : xH} (A : lwA xs a i) (I : lwI h i) (G : lwG xs k18 i) : EX ((xsL xs (nI (6 * i) + 1)).bind fun v1_ => (xcv h (some 0) 10).bind fun _ => (fn116 (some 0) v1_ h).bind fun r => (xsL xs (nI (6 * i) + 1)).bind fun v1 => (xcv r.2 (some 178) 11).bind fun _ => (fn155 (some 178) v1 r.2).bind fun q => (if r.1 = q.1 then j234_724 xs k18 (some 0) (some 178) (nI (6 * i)) q.2 else some (0, q.2))) (fun z => ((1 : Int32), z)) lwP := by
  obtain ⟨e1, e2, e3, e4, e5⟩ := A
  obtain ⟨C, S, σ, g, W, F, R, M, w, t, n1, n2⟩ := I
  obtain ⟨C2, g2, c1, c2, c3, c4⟩ := cc_4 R w a
  obtain ⟨z, z1, z2, z3⟩ := g116_ok W rfl t c1
  have Rz := RF_kp F W z2 c3.1 c3.2.1
  obtain ⟨S2, m1, m2⟩ := mm_4 M w a
  obtain ⟨y, y1, y2, y3⟩ := g155_ok Rz m1
  refine EX.bd e1 ?_
  refine EX.bd (W.cv rfl t (by decide)) ?_
  refine EX.bd z1 ?_
  refine EX.bd e1 ?_
  refine EX.bd Rz.cv ?_
  refine EX.bd y1 ?_
  refine EX.pos rfl ?_
  exact G y (lq_s W F t n1 n2 c2 c3 c4 z2 z3 y2 y3 m2)
theorem lq_5 {k18 : Option Nat → Option Nat → Int32 → xH → Option (Int32 × xH)} {i : Nat} {a : Nat → Int32} {h : xH} (A : lwA xs a i) (I : lwI h i) (G : lwG xs k18 i) : EX ((xsL xs (nI (6 * i) + 1)).bind fun v1_ => (xcv h (some 0) 10).bind fun _ => (fn117 (some 0) v1_ h).bind fun r => (xsL xs (nI (6 * i) + 1)).bind fun v1 => (xcv r.2 (some 178) 11).bind fun _ => (fn189 (some 178) v1 r.2).bind fun q => (if r.1 = q.1 then j234_724 xs k18 (some 0) (some 178) (nI (6 * i)) q.2 else some (0, q.2))) (fun z => ((1 : Int32), z)) lwP := by
  obtain ⟨e1, e2, e3, e4, e5⟩ := A
  obtain ⟨C, S, σ, g, W, F, R, M, w, t, n1, n2⟩ := I
  obtain ⟨C2, g2, c1, c2, c3, c4⟩ := cc_5 R w a
  obtain ⟨z, z1, z2, z3⟩ := g117_ok W rfl t c1
  have Rz := RF_kp F W z2 c3.1 c3.2.1
  obtain ⟨S2, m1, m2⟩ := mm_5 M w a
  obtain ⟨y, y1, y2, y3⟩ := g189_ok Rz m1
  refine EX.bd e1 ?_
  refine EX.bd (W.cv rfl t (by decide)) ?_
  refine EX.bd z1 ?_
  refine EX.bd e1 ?_
  refine EX.bd Rz.cv ?_
  refine EX.bd y1 ?_
  refine EX.pos rfl ?_
  exact G y (lq_s W F t n1 n2 c2 c3 c4 z2 z3 y2 y3 m2)
theorem lq_6 {k18 : Option Nat → Option Nat → Int32 → xH → Option (Int32 × xH)} {i : Nat} {a : Nat → Int32} {h : xH} (A : lwA xs a i) (I : lwI h i) (G : lwG xs k18 i) : EX ((xcv h (some 0) 10).bind fun _ => (fn119 (some 0) h).bind fun r => (xcv r.2 (some 178) 11).bind fun _ => (fn190 (some 178) r.2).bind fun q => (if r.1 = q.1 then j234_724 xs k18 (some 0) (some 178) (nI (6 * i)) q.2 else some (0, q.2))) (fun z => ((1 : Int32), z)) lwP := by
  obtain ⟨e1, e2, e3, e4, e5⟩ := A
  obtain ⟨C, S, σ, g, W, F, R, M, w, t, n1, n2⟩ := I
  obtain ⟨C2, g2, c1, c2, c3, c4⟩ := cc_6 R w a
  obtain ⟨z, z1, z2, z3⟩ := g119_ok W rfl t c1
  have Rz := RF_kp F W z2 c3.1 c3.2.1
  obtain ⟨S2, m1, m2⟩ := mm_6 M w a
  obtain ⟨y, y1, y2, y3⟩ := g190_ok Rz m1
  refine EX.bd (W.cv rfl t (by decide)) ?_
  refine EX.bd z1 ?_
  refine EX.bd Rz.cv ?_
  refine EX.bd y1 ?_
  refine EX.pos rfl ?_
  exact G y (lq_s W F t n1 n2 c2 c3 c4 z2 z3 y2 y3 m2)
theorem lq_7 {k18 : Option Nat → Option Nat → Int32 → xH → Option (Int32 × xH)} {i : Nat} {a : Nat → Int32} {h : xH} (A : lwA xs a i) (I : lwI h i) (G : lwG xs k18 i) : EX ((xsL xs (nI (6 * i) + 1)).bind fun v1_ => (xcv h (some 0) 10).bind fun _ => (fn120 (some 0) v1_ h).bind fun r => (xsL xs (nI (6 * i) + 1)).bind fun v1 => (xcv r.2 (some 178) 11).bind fun _ => (fn191 (some 178) v1 r.2).bind fun q => (if r.1 = q.1 then j234_724 xs k18 (some 0) (some 178) (nI (6 * i)) q.2 else some (0, q.2))) (fun z => ((1 : Int32), z)) lwP := by
  obtain ⟨e1, e2, e3, e4, e5⟩ := A
  obtain ⟨C, S, σ, g, W, F, R, M, w, t, n1, n2⟩ := I
  obtain ⟨C2, g2, c1, c2, c3, c4⟩ := cc_7 R w a
  obtain ⟨z, z1, z2, z3⟩ := g120_ok W rfl t c1
  have Rz := RF_kp F W z2 c3.1 c3.2.1
  obtain ⟨S2, m1, m2⟩ := mm_7 M w a
  obtain ⟨y, y1, y2, y3⟩ := g191_ok Rz m1
  refine EX.bd e1 ?_
  refine EX.bd (W.cv rfl t (by decide)) ?_
  refine EX.bd z1 ?_
  refine EX.bd e1 ?_
  refine EX.bd Rz.cv ?_
  refine EX.bd y1 ?_
  refine EX.pos rfl ?_
  exact G y (lq_s W F t n1 n2 c2 c3 c4 z2 z3 y2 y3 m2)
theorem lq_8 {k18 : Option Nat → Option Nat → Int32 → xH → Option (Int32 × xH)} {i : Nat} {a : Nat → Int32} {h : xH} (A : lwA xs a i) (I : lwI h i) (G : lwG xs k18 i) : EX ((xsL xs (nI (6 * i) + 1)).bind fun v1_ => (xsL xs (nI (6 * i) + 2)).bind fun v2_ => (xcv h (some 0) 10).bind fun _ => (fn121 (some 0) v1_ v2_ h).bind fun r => (xsL xs (nI (6 * i) + 1)).bind fun v1 => (xsL xs (nI (6 * i) + 2)).bind fun v2 => (xcv r.2 (some 178) 11).bind fun _ => (fn192 (some 178) v1 v2 r.2).bind fun q => (if r.1 = q.1 then j234_724 xs k18 (some 0) (some 178) (nI (6 * i)) q.2 else some (0, q.2))) (fun z => ((1 : Int32), z)) lwP := by
  obtain ⟨e1, e2, e3, e4, e5⟩ := A
  obtain ⟨C, S, σ, g, W, F, R, M, w, t, n1, n2⟩ := I
  obtain ⟨C2, g2, c1, c2, c3, c4⟩ := cc_8 R w a
  obtain ⟨z, z1, z2, z3⟩ := g121_ok W rfl t c1
  have Rz := RF_kp F W z2 c3.1 c3.2.1
  obtain ⟨S2, m1, m2⟩ := mm_8 M w a
  obtain ⟨y, y1, y2, y3⟩ := g192_ok Rz m1
  refine EX.bd e1 ?_
  refine EX.bd e2 ?_
  refine EX.bd (W.cv rfl t (by decide)) ?_
  refine EX.bd z1 ?_
  refine EX.bd e1 ?_
  refine EX.bd e2 ?_
  refine EX.bd Rz.cv ?_
  refine EX.bd y1 ?_
  refine EX.pos rfl ?_
  exact G y (lq_s W F t n1 n2 c2 c3 c4 z2 z3 y2 y3 m2)
theorem lq_9 {k18 : Option Nat → Option Nat → Int32 → xH → Option (Int32 × xH)} {i : Nat} {a : Nat → Int32} {h : xH} (A : lwA xs a i) (I : lwI h i) (G : lwG xs k18 i) : EX ((xsL xs (nI (6 * i) + 1)).bind fun v1_ => (xsL xs (nI (6 * i) + 2)).bind fun v2_ => (xsL xs (nI (6 * i) + 3)).bind fun v3_ => (xcv h (some 0) 10).bind fun _ => (fn122 (some 0) v1_ v2_ v3_ h).bind fun r => (xsL xs (nI (6 * i) + 1)).bind fun v1 => (xsL xs (nI (6 * i) + 2)).bind fun v2 => (xsL xs (nI (6 * i) + 3)).bind fun v3 => (xcv r.2 (some 178) 11).bind fun _ => (fn193 (some 178) v1 v2 v3 r.2).bind fun q => (if r.1 = q.1 then j234_724 xs k18 (some 0) (some 178) (nI (6 * i)) q.2 else some (0, q.2))) (fun z => ((1 : Int32), z)) lwP := by
  obtain ⟨e1, e2, e3, e4, e5⟩ := A
  obtain ⟨C, S, σ, g, W, F, R, M, w, t, n1, n2⟩ := I
  obtain ⟨C2, g2, c1, c2, c3, c4⟩ := cc_9 R w a
  obtain ⟨z, z1, z2, z3⟩ := g122_ok W rfl t c1
  have Rz := RF_kp F W z2 c3.1 c3.2.1
  obtain ⟨S2, m1, m2⟩ := mm_9 M w a
  obtain ⟨y, y1, y2, y3⟩ := g193_ok Rz m1
  refine EX.bd e1 ?_
  refine EX.bd e2 ?_
  refine EX.bd e3 ?_
  refine EX.bd (W.cv rfl t (by decide)) ?_
  refine EX.bd z1 ?_
  refine EX.bd e1 ?_
  refine EX.bd e2 ?_
  refine EX.bd e3 ?_
  refine EX.bd Rz.cv ?_
  refine EX.bd y1 ?_
  refine EX.pos rfl ?_
  exact G y (lq_s W F t n1 n2 c2 c3 c4 z2 z3 y2 y3 m2)
theorem lq_10 {k18 : Option Nat → Option Nat → Int32 → xH → Option (Int32 × xH)} {i : Nat} {a : Nat → Int32} {h : xH} (A : lwA xs a i) (I : lwI h i) (G : lwG xs k18 i) : EX ((xsL xs (nI (6 * i) + 1)).bind fun v1_ => (xsL xs (nI (6 * i) + 2)).bind fun v2_ => (xsL xs (nI (6 * i) + 3)).bind fun v3_ => (xcv h (some 0) 10).bind fun _ => (fn123 (some 0) v1_ v2_ v3_ h).bind fun r => (xsL xs (nI (6 * i) + 1)).bind fun v1 => (xsL xs (nI (6 * i) + 2)).bind fun v2 => (xsL xs (nI (6 * i) + 3)).bind fun v3 => (xcv r.2 (some 178) 11).bind fun _ => (fn194 (some 178) v1 v2 v3 r.2).bind fun q => (if r.1 = q.1 then j234_724 xs k18 (some 0) (some 178) (nI (6 * i)) q.2 else some (0, q.2))) (fun z => ((1 : Int32), z)) lwP := by
  obtain ⟨e1, e2, e3, e4, e5⟩ := A
  obtain ⟨C, S, σ, g, W, F, R, M, w, t, n1, n2⟩ := I
  obtain ⟨C2, g2, c1, c2, c3, c4⟩ := cc_10 R w a
  obtain ⟨z, z1, z2, z3⟩ := g123_ok W rfl t c1
  have Rz := RF_kp F W z2 c3.1 c3.2.1
  obtain ⟨S2, m1, m2⟩ := mm_10 M w a
  obtain ⟨y, y1, y2, y3⟩ := g194_ok Rz m1
  refine EX.bd e1 ?_
  refine EX.bd e2 ?_
  refine EX.bd e3 ?_
  refine EX.bd (W.cv rfl t (by decide)) ?_
  refine EX.bd z1 ?_
  refine EX.bd e1 ?_
  refine EX.bd e2 ?_
  refine EX.bd e3 ?_
  refine EX.bd Rz.cv ?_
  refine EX.bd y1 ?_
  refine EX.pos rfl ?_
  exact G y (lq_s W F t n1 n2 c2 c3 c4 z2 z3 y2 y3 m2)
theorem lq_11 {k18 : Option Nat → Option Nat → Int32 → xH → Option (Int32 × xH)} {i : Nat} {a : Nat → Int32} {h : xH} (A : lwA xs a i) (I : lwI h i) (G : lwG xs k18 i) : EX ((xsL xs (nI (6 * i) + 1)).bind fun v1_ => (xcv h (some 0) 10).bind fun _ => (fn124 (some 0) v1_ h).bind fun r => (xsL xs (nI (6 * i) + 1)).bind fun v1 => (xcv r.2 (some 178) 11).bind fun _ => (fn165 (some 178) v1 r.2).bind fun q => (if r.1 = q.1 then j234_724 xs k18 (some 0) (some 178) (nI (6 * i)) q.2 else some (0, q.2))) (fun z => ((1 : Int32), z)) lwP := by
  obtain ⟨e1, e2, e3, e4, e5⟩ := A
  obtain ⟨C, S, σ, g, W, F, R, M, w, t, n1, n2⟩ := I
  obtain ⟨C2, g2, c1, c2, c3, c4⟩ := cc_11 R w a
  obtain ⟨z, z1, z2, z3⟩ := g124_ok W rfl t c1
  have Rz := RF_kp F W z2 c3.1 c3.2.1
  obtain ⟨S2, m1, m2⟩ := mm_11 M w a
  obtain ⟨y, y1, y2, y3⟩ := g165_ok Rz m1
  refine EX.bd e1 ?_
  refine EX.bd (W.cv rfl t (by decide)) ?_
  refine EX.bd z1 ?_
  refine EX.bd e1 ?_
  refine EX.bd Rz.cv ?_
  refine EX.bd y1 ?_
  refine EX.pos rfl ?_
  exact G y (lq_s W F t n1 n2 c2 c3 c4 z2 z3 y2 y3 m2)
theorem lq_12 {k18 : Option Nat → Option Nat → Int32 → xH → Option (Int32 × xH)} {i : Nat} {a : Nat → Int32} {h : xH} (A : lwA xs a i) (I : lwI h i) (G : lwG xs k18 i) : EX ((xsL xs (nI (6 * i) + 1)).bind fun v1_ => (xsL xs (nI (6 * i) + 2)).bind fun v2_ => (xsL xs (nI (6 * i) + 3)).bind fun v3_ => (xcv h (some 0) 10).bind fun _ => (fn125 (some 0) v1_ v2_ v3_ h).bind fun r => (xsL xs (nI (6 * i) + 1)).bind fun v1 => (xsL xs (nI (6 * i) + 2)).bind fun v2 => (xsL xs (nI (6 * i) + 3)).bind fun v3 => (xcv r.2 (some 178) 11).bind fun _ => (fn214 (some 178) v1 v2 v3 r.2).bind fun q => (if r.1 = q.1 then j234_724 xs k18 (some 0) (some 178) (nI (6 * i)) q.2 else some (0, q.2))) (fun z => ((1 : Int32), z)) lwP := by
  obtain ⟨e1, e2, e3, e4, e5⟩ := A
  obtain ⟨C, S, σ, g, W, F, R, M, w, t, n1, n2⟩ := I
  obtain ⟨C2, g2, c1, c2, c3, c4⟩ := cc_12 R w a
  obtain ⟨z, z1, z2, z3⟩ := g125_ok W rfl t c1
  have Rz := RF_kp F W z2 c3.1 c3.2.1
  obtain ⟨S2, m1, m2⟩ := mm_12 M w a
  obtain ⟨y, y1, y2, y3⟩ := g214_ok Rz m1
  refine EX.bd e1 ?_
  refine EX.bd e2 ?_
  refine EX.bd e3 ?_
  refine EX.bd (W.cv rfl t (by decide)) ?_
  refine EX.bd z1 ?_
  refine EX.bd e1 ?_
  refine EX.bd e2 ?_
  refine EX.bd e3 ?_
  refine EX.bd Rz.cv ?_
  refine EX.bd y1 ?_
  refine EX.pos rfl ?_
  exact G y (lq_s W F t n1 n2 c2 c3 c4 z2 z3 y2 y3 m2)
theorem lq_13 {k18 : Option Nat → Option Nat → Int32 → xH → Option (Int32 × xH)} {i : Nat} {a : Nat → Int32} {h : xH} (A : lwA xs a i) (I : lwI h i) (G : lwG xs k18 i) : EX ((xsL xs (nI (6 * i) + 1)).bind fun v1_ => (xcv h (some 0) 10).bind fun _ => (fn126 (some 0) v1_ h).bind fun r => (xsL xs (nI (6 * i) + 1)).bind fun v1 => (xcv r.2 (some 178) 11).bind fun _ => (fn215 (some 178) v1 r.2).bind fun q => (if r.1 = q.1 then j234_724 xs k18 (some 0) (some 178) (nI (6 * i)) q.2 else some (0, q.2))) (fun z => ((1 : Int32), z)) lwP := by
  obtain ⟨e1, e2, e3, e4, e5⟩ := A
  obtain ⟨C, S, σ, g, W, F, R, M, w, t, n1, n2⟩ := I
  obtain ⟨C2, g2, c1, c2, c3, c4⟩ := cc_13 R w a
  obtain ⟨z, z1, z2, z3⟩ := g126_ok W rfl t c1
  have Rz := RF_kp F W z2 c3.1 c3.2.1
  obtain ⟨S2, m1, m2⟩ := mm_13 M w a
  obtain ⟨y, y1, y2, y3⟩ := g215_ok Rz m1
  refine EX.bd e1 ?_
  refine EX.bd (W.cv rfl t (by decide)) ?_
  refine EX.bd z1 ?_
  refine EX.bd e1 ?_
  refine EX.bd Rz.cv ?_
  refine EX.bd y1 ?_
  refine EX.pos rfl ?_
  exact G y (lq_s W F t n1 n2 c2 c3 c4 z2 z3 y2 y3 m2)
theorem lq_14 {k18 : Option Nat → Option Nat → Int32 → xH → Option (Int32 × xH)} {i : Nat} {a : Nat → Int32} {h : xH} (A : lwA xs a i) (I : lwI h i) (G : lwG xs k18 i) : EX ((xsL xs (nI (6 * i) + 1)).bind fun v1_ => (xcv h (some 0) 10).bind fun _ => (fn127 (some 0) v1_ h).bind fun r => (xsL xs (nI (6 * i) + 1)).bind fun v1 => (xcv r.2 (some 178) 11).bind fun _ => (fn216 (some 178) v1 r.2).bind fun q => (if r.1 = q.1 then j234_724 xs k18 (some 0) (some 178) (nI (6 * i)) q.2 else some (0, q.2))) (fun z => ((1 : Int32), z)) lwP := by
  obtain ⟨e1, e2, e3, e4, e5⟩ := A
  obtain ⟨C, S, σ, g, W, F, R, M, w, t, n1, n2⟩ := I
  obtain ⟨C2, g2, c1, c2, c3, c4⟩ := cc_14 R w a
  obtain ⟨z, z1, z2, z3⟩ := g127_ok W rfl t c1
  have Rz := RF_kp F W z2 c3.1 c3.2.1
  obtain ⟨S2, m1, m2⟩ := mm_14 M w a
  obtain ⟨y, y1, y2, y3⟩ := g216_ok Rz m1
  refine EX.bd e1 ?_
  refine EX.bd (W.cv rfl t (by decide)) ?_
  refine EX.bd z1 ?_
  refine EX.bd e1 ?_
  refine EX.bd Rz.cv ?_
  refine EX.bd y1 ?_
  refine EX.pos rfl ?_
  exact G y (lq_s W F t n1 n2 c2 c3 c4 z2 z3 y2 y3 m2)
theorem lq_15 {k18 : Option Nat → Option Nat → Int32 → xH → Option (Int32 × xH)} {i : Nat} {a : Nat → Int32} {h : xH} (A : lwA xs a i) (I : lwI h i) (G : lwG xs k18 i) : EX ((xsL xs (nI (6 * i) + 1)).bind fun v1_ => (xcv h (some 0) 10).bind fun _ => (fn128 (some 0) v1_ h).bind fun r => (xsL xs (nI (6 * i) + 1)).bind fun v1 => (xcv r.2 (some 178) 11).bind fun _ => (fn217 (some 178) v1 r.2).bind fun q => (if r.1 = q.1 then j234_724 xs k18 (some 0) (some 178) (nI (6 * i)) q.2 else some (0, q.2))) (fun z => ((1 : Int32), z)) lwP := by
  obtain ⟨e1, e2, e3, e4, e5⟩ := A
  obtain ⟨C, S, σ, g, W, F, R, M, w, t, n1, n2⟩ := I
  obtain ⟨C2, g2, c1, c2, c3, c4⟩ := cc_15 R w a
  obtain ⟨z, z1, z2, z3⟩ := g128_ok W rfl t c1
  have Rz := RF_kp F W z2 c3.1 c3.2.1
  obtain ⟨S2, m1, m2⟩ := mm_15 M w a
  obtain ⟨y, y1, y2, y3⟩ := g217_ok Rz m1
  refine EX.bd e1 ?_
  refine EX.bd (W.cv rfl t (by decide)) ?_
  refine EX.bd z1 ?_
  refine EX.bd e1 ?_
  refine EX.bd Rz.cv ?_
  refine EX.bd y1 ?_
  refine EX.pos rfl ?_
  exact G y (lq_s W F t n1 n2 c2 c3 c4 z2 z3 y2 y3 m2)
theorem lq_16 {k18 : Option Nat → Option Nat → Int32 → xH → Option (Int32 × xH)} {i : Nat} {a : Nat → Int32} {h : xH} (A : lwA xs a i) (I : lwI h i) (G : lwG xs k18 i) : EX ((xsL xs (nI (6 * i) + 1)).bind fun v1_ => (xcv h (some 0) 10).bind fun _ => (fn129 (some 0) v1_ h).bind fun r => (xsL xs (nI (6 * i) + 1)).bind fun v1 => (xcv r.2 (some 178) 11).bind fun _ => (fn218 (some 178) v1 r.2).bind fun q => (if r.1 = q.1 then j234_724 xs k18 (some 0) (some 178) (nI (6 * i)) q.2 else some (0, q.2))) (fun z => ((1 : Int32), z)) lwP := by
  obtain ⟨e1, e2, e3, e4, e5⟩ := A
  obtain ⟨C, S, σ, g, W, F, R, M, w, t, n1, n2⟩ := I
  obtain ⟨C2, g2, c1, c2, c3, c4⟩ := cc_16 R w a
  obtain ⟨z, z1, z2, z3⟩ := g129_ok W rfl t c1
  have Rz := RF_kp F W z2 c3.1 c3.2.1
  obtain ⟨S2, m1, m2⟩ := mm_16 M w a
  obtain ⟨y, y1, y2, y3⟩ := g218_ok Rz m1
  refine EX.bd e1 ?_
  refine EX.bd (W.cv rfl t (by decide)) ?_
  refine EX.bd z1 ?_
  refine EX.bd e1 ?_
  refine EX.bd Rz.cv ?_
  refine EX.bd y1 ?_
  refine EX.pos rfl ?_
  exact G y (lq_s W F t n1 n2 c2 c3 c4 z2 z3 y2 y3 m2)
theorem lq_17 {k18 : Option Nat → Option Nat → Int32 → xH → Option (Int32 × xH)} {i : Nat} {a : Nat → Int32} {h : xH} (A : lwA xs a i) (I : lwI h i) (G : lwG xs k18 i) : EX ((xsL xs (nI (6 * i) + 1)).bind fun v1_ => (xcv h (some 0) 10).bind fun _ => (fn130 (some 0) v1_ h).bind fun r => (xsL xs (nI (6 * i) + 1)).bind fun v1 => (xcv r.2 (some 178) 11).bind fun _ => (fn224 (some 178) v1 r.2).bind fun q => (if r.1 = q.1 then j234_724 xs k18 (some 0) (some 178) (nI (6 * i)) q.2 else some (0, q.2))) (fun z => ((1 : Int32), z)) lwP := by
  obtain ⟨e1, e2, e3, e4, e5⟩ := A
  obtain ⟨C, S, σ, g, W, F, R, M, w, t, n1, n2⟩ := I
  obtain ⟨C2, g2, c1, c2, c3, c4⟩ := cc_17 R w a
  obtain ⟨z, z1, z2, z3⟩ := g130_ok W rfl t c1
  have Rz := RF_kp F W z2 c3.1 c3.2.1
  obtain ⟨S2, m1, m2⟩ := mm_17 M w a
  obtain ⟨y, y1, y2, y3⟩ := g224_ok Rz m1
  refine EX.bd e1 ?_
  refine EX.bd (W.cv rfl t (by decide)) ?_
  refine EX.bd z1 ?_
  refine EX.bd e1 ?_
  refine EX.bd Rz.cv ?_
  refine EX.bd y1 ?_
  refine EX.pos rfl ?_
  exact G y (lq_s W F t n1 n2 c2 c3 c4 z2 z3 y2 y3 m2)
theorem lq_18 {k18 : Option Nat → Option Nat → Int32 → xH → Option (Int32 × xH)} {i : Nat} {a : Nat → Int32} {h : xH} (A : lwA xs a i) (I : lwI h i) (G : lwG xs k18 i) : EX ((xsL xs (nI (6 * i) + 1)).bind fun v1_ => (xsL xs (nI (6 * i) + 2)).bind fun v2_ => (xcv h (some 0) 10).bind fun _ => (fn131 (some 0) v1_ v2_ h).bind fun r => (xsL xs (nI (6 * i) + 1)).bind fun v1 => (xsL xs (nI (6 * i) + 2)).bind fun v2 => (xcv r.2 (some 178) 11).bind fun _ => (fn225 (some 178) v1 v2 r.2).bind fun q => (if r.1 = q.1 then j234_724 xs k18 (some 0) (some 178) (nI (6 * i)) q.2 else some (0, q.2))) (fun z => ((1 : Int32), z)) lwP := by
  obtain ⟨e1, e2, e3, e4, e5⟩ := A
  obtain ⟨C, S, σ, g, W, F, R, M, w, t, n1, n2⟩ := I
  obtain ⟨C2, g2, c1, c2, c3, c4⟩ := cc_18 R w a
  obtain ⟨z, z1, z2, z3⟩ := g131_ok W rfl t c1
  have Rz := RF_kp F W z2 c3.1 c3.2.1
  obtain ⟨S2, m1, m2⟩ := mm_18 M w a
  obtain ⟨y, y1, y2, y3⟩ := g225_ok Rz m1
  refine EX.bd e1 ?_
  refine EX.bd e2 ?_
  refine EX.bd (W.cv rfl t (by decide)) ?_
  refine EX.bd z1 ?_
  refine EX.bd e1 ?_
  refine EX.bd e2 ?_
  refine EX.bd Rz.cv ?_
  refine EX.bd y1 ?_
  refine EX.pos rfl ?_
  exact G y (lq_s W F t n1 n2 c2 c3 c4 z2 z3 y2 y3 m2)
theorem lq_19 {k18 : Option Nat → Option Nat → Int32 → xH → Option (Int32 × xH)} {i : Nat} {a : Nat → Int32} {h : xH} (A : lwA xs a i) (I : lwI h i) (G : lwG xs k18 i) : EX ((xsL xs (nI (6 * i) + 1)).bind fun v1_ => (xcv h (some 0) 10).bind fun _ => (fn132 (some 0) v1_ h).bind fun r => (xsL xs (nI (6 * i) + 1)).bind fun v1 => (xcv r.2 (some 178) 11).bind fun _ => (fn226 (some 178) v1 r.2).bind fun q => (if r.1 = q.1 then j234_724 xs k18 (some 0) (some 178) (nI (6 * i)) q.2 else some (0, q.2))) (fun z => ((1 : Int32), z)) lwP := by
  obtain ⟨e1, e2, e3, e4, e5⟩ := A
  obtain ⟨C, S, σ, g, W, F, R, M, w, t, n1, n2⟩ := I
  obtain ⟨C2, g2, c1, c2, c3, c4⟩ := cc_19 R w a
  obtain ⟨z, z1, z2, z3⟩ := g132_ok W rfl t c1
  have Rz := RF_kp F W z2 c3.1 c3.2.1
  obtain ⟨S2, m1, m2⟩ := mm_19 M w a
  obtain ⟨y, y1, y2, y3⟩ := g226_ok Rz m1
  refine EX.bd e1 ?_
  refine EX.bd (W.cv rfl t (by decide)) ?_
  refine EX.bd z1 ?_
  refine EX.bd e1 ?_
  refine EX.bd Rz.cv ?_
  refine EX.bd y1 ?_
  refine EX.pos rfl ?_
  exact G y (lq_s W F t n1 n2 c2 c3 c4 z2 z3 y2 y3 m2)
theorem lq_3 {k18 : Option Nat → Option Nat → Int32 → xH → Option (Int32 × xH)} {i : Nat} {a : Nat → Int32} {h : xH} (A : lwA xs a i) (I : lwI h i) (G : lwG xs k18 i) : EX ((xsL xs (nI (6 * i) + 1)).bind fun v1 => (xsL xs (nI (6 * i) + 2)).bind fun v2 => (if v2 = 0 then j234_256 xs k18 (some 0) (some 178) (nI (6 * i)) (some 0) v1 0 h else j234_256 xs k18 (some 0) (some 178) (nI (6 * i)) (some 0) v1 1 h)) (fun z => ((1 : Int32), z)) lwP := by
  obtain ⟨e1, e2, e3, e4, e5⟩ := A
  obtain ⟨C, S, σ, g, W, F, R, M, w, t, n1, n2⟩ := I
  refine EX.bd e1 ?_
  refine EX.bd e2 ?_
  by_cases hb : a 2 = 0
  · refine EX.pos hb ?_
    obtain ⟨C2, g2, c1, c2, c3, c4⟩ := cc_3 R w a (b2 := false) (by simp [hb])
    rw [bZ_f] at c1
    obtain ⟨z, z1, z2, z3⟩ := g115_ok W rfl t c1
    have Rz := RF_kp F W z2 c3.1 c3.2.1
    obtain ⟨S2, m1, m2⟩ := mm_3 M w a (b2 := false) (by simp [hb])
    rw [bZ_f] at m1
    obtain ⟨y, y1, y2, y3⟩ := g154_ok Rz m1
    unfold j234_256
    refine EX.bd (W.cv rfl t (by decide)) ?_
    refine EX.bd z1 ?_
    refine EX.bd e1 ?_
    refine EX.bd e2 ?_
    refine EX.pos hb ?_
    unfold j234_278
    refine EX.bd Rz.cv ?_
    refine EX.bd y1 ?_
    refine EX.pos rfl ?_
    exact G y (lq_s W F t n1 n2 c2 c3 c4 z2 z3 y2 y3 m2)
  · refine EX.neg hb ?_
    obtain ⟨C2, g2, c1, c2, c3, c4⟩ := cc_3 R w a (b2 := true) (by simp [hb])
    rw [bZ_t] at c1
    obtain ⟨z, z1, z2, z3⟩ := g115_ok W rfl t c1
    have Rz := RF_kp F W z2 c3.1 c3.2.1
    obtain ⟨S2, m1, m2⟩ := mm_3 M w a (b2 := true) (by simp [hb])
    rw [bZ_t] at m1
    obtain ⟨y, y1, y2, y3⟩ := g154_ok Rz m1
    unfold j234_256
    refine EX.bd (W.cv rfl t (by decide)) ?_
    refine EX.bd z1 ?_
    refine EX.bd e1 ?_
    refine EX.bd e2 ?_
    refine EX.neg hb ?_
    unfold j234_278
    refine EX.bd Rz.cv ?_
    refine EX.bd y1 ?_
    refine EX.pos rfl ?_
    exact G y (lq_s W F t n1 n2 c2 c3 c4 z2 z3 y2 y3 m2)
/-- the end of the script -/
theorem lq_end {n i : Nat} {h : xH} (hx : xs.length ≤ 3072) (hl : xs.length < 6 * (i + 1)) (hi : i ≤ 512) (I : lwI h i) : EX (l234_18 xs (n + 1) (some 0) (some 178) (nI (6 * i)) h) (fun z => ((1 : Int32), z)) lwP := by
  unfold l234_18
  refine EX.pos ?_ ⟨h, rfl, I.p hi⟩
  show nI xs.length - nI 6 < nI (6 * i)
  by_cases h6 : 6 ≤ xs.length
  · rw [pk_sub h6]
    exact nI_lt (by omega) (by omega)
  · have h1 : nI xs.length - nI 6 < 0 := pk_sneg (a := xs.length) (b := 6) (by decide) (by omega)
    have h2 : (0 : Int32) ≤ nI (6 * i) := nI_le (a := 0) (Nat.zero_le _) (by omega)
    exact Int32.lt_of_lt_of_le h1 h2
theorem lq_rd (hx : xs.length ≤ 3072) {j : Nat} (hj : j < xs.length) : xsL xs (nI j) = some (xs.getD j 0) := by
  unfold xsL
  have e : xout (nI j) xs.length = false := by
    unfold xout
    rw [nI_clamp (by omega)]
    exact decide_eq_false fun h9 => by
      rcases h9 with h9 | h9
      · exact nI_pos (by omega) h9
      · omega
  rw [if_pos e, nI_clamp (by omega)]
/-- all calls -/
theorem lq_loop (hx : xs.length ≤ 3072) : ∀ r n i (h : xH), xs.length < 6 * (i + r + 1) → i ≤ 512 → r < n → lwI h i → EX (l234_18 xs n (some 0) (some 178) (nI (6 * i)) h) (fun z => ((1 : Int32), z)) lwP := by
  intro r
  induction r with
  | zero =>
    intro n i h hl hi hn I
    obtain ⟨n, rfl⟩ : ∃ m, n = m + 1 := ⟨n - 1, by omega⟩
    exact lq_end hx hl hi I
  | succ r ih =>
    intro n i h hl hi hn I
    obtain ⟨n, rfl⟩ : ∃ m, n = m + 1 := ⟨n - 1, by omega⟩
    by_cases hs : xs.length < 6 * (i + 1)
    · exact lq_end hx hs hi I
    have G : lwG xs (l234_18 xs n) i := fun y I' => by
      unfold j234_724
      have e6 : nI (6 * i) + 6 = nI (6 * (i + 1)) := nI_add (6 * i) 6
      rw [e6]
      exact ih n (i + 1) y (by omega) (by omega) (by omega) I'
    obtain ⟨a, ha⟩ : ∃ a : Nat → Int32, ∀ k, a k = xs.getD (6 * i + k) 0 := ⟨_, fun _ => rfl⟩
    have rd : ∀ k, k < 6 → xsL xs (nI (6 * i + k)) = some (a k) := fun k hk => by
      rw [ha]
      exact lq_rd hx (by omega)
    have e0 : xsL xs (nI (6 * i)) = some (a 0) := rd 0 (by decide)
    have A : lwA xs a i := by
      have q : ∀ k, nI (6 * i) + nI k = nI (6 * i + k) := fun k => nI_add _ _
      refine ⟨?_, ?_, ?_, ?_, ?_⟩
      · exact (congrArg (xsL xs) (q 1)).trans (rd 1 (by decide))
      · exact (congrArg (xsL xs) (q 2)).trans (rd 2 (by decide))
      · exact (congrArg (xsL xs) (q 3)).trans (rd 3 (by decide))
      · exact (congrArg (xsL xs) (q 4)).trans (rd 4 (by decide))
      · exact (congrArg (xsL xs) (q 5)).trans (rd 5 (by decide))
    unfold l234_18
    refine EX.neg ?_ ?_
    · show ¬ nI xs.length - nI 6 < nI (6 * i)
      rw [pk_sub (by omega)]
      exact nI_nlt (by omega) (by omega)
    refine EX.bd e0 ?_
    by_cases h0 : (a 0 &&& 31) = 0
    · refine EX.pos h0 ?_
      exact lq_0 A I G
    refine EX.neg h0 ?_
    by_cases h1 : (a 0 &&& 31) = 1
    · refine EX.pos h1 ?_
      exact lq_1 A I G
    refine EX.neg h1 ?_
    by_cases h2 : (a 0 &&& 31) = 2
    · refine EX.pos h2 ?_
      exact lq_2 A I G
    refine EX.neg h2 ?_
    by_cases h3 : (a 0 &&& 31) = 3
    · refine EX.pos h3 ?_
      exact lq_3 A I G
    refine EX.neg h3 ?_
    by_cases h4 : (a 0 &&& 31) = 4
    · refine EX.pos h4 ?_
      exact lq_4 A I G
    refine EX.neg h4 ?_
    by_cases h5 : (a 0 &&& 31) = 5
    · refine EX.pos h5 ?_
      exact lq_5 A I G
    refine EX.neg h5 ?_
    by_cases h6 : (a 0 &&& 31) = 6
    · refine EX.pos h6 ?_
      exact lq_6 A I G
    refine EX.neg h6 ?_
    by_cases h7 : (a 0 &&& 31) = 7
    · refine EX.pos h7 ?_
      exact lq_7 A I G
    refine EX.neg h7 ?_
    by_cases h8 : (a 0 &&& 31) = 8
    · refine EX.pos h8 ?_
      exact lq_8 A I G
    refine EX.neg h8 ?_
    by_cases h9 : (a 0 &&& 31) = 9
    · refine EX.pos h9 ?_
      exact lq_9 A I G
    refine EX.neg h9 ?_
    by_cases h10 : (a 0 &&& 31) = 10
    · refine EX.pos h10 ?_
      exact lq_10 A I G
    refine EX.neg h10 ?_
    by_cases h11 : (a 0 &&& 31) = 11
    · refine EX.pos h11 ?_
      exact lq_11 A I G
    refine EX.neg h11 ?_
    by_cases h12 : (a 0 &&& 31) = 12
    · refine EX.pos h12 ?_
      exact lq_12 A I G
    refine EX.neg h12 ?_
    by_cases h13 : (a 0 &&& 31) = 13
    · refine EX.pos h13 ?_
      exact lq_13 A I G
    refine EX.neg h13 ?_
    by_cases h14 : (a 0 &&& 31) = 14
    · refine EX.pos h14 ?_
      exact lq_14 A I G
    refine EX.neg h14 ?_
    by_cases h15 : (a 0 &&& 31) = 15
    · refine EX.pos h15 ?_
      exact lq_15 A I G
    refine EX.neg h15 ?_
    by_cases h16 : (a 0 &&& 31) = 16
    · refine EX.pos h16 ?_
      exact lq_16 A I G
    refine EX.neg h16 ?_
    by_cases h17 : (a 0 &&& 31) = 17
    · refine EX.pos h17 ?_
      exact lq_17 A I G
    refine EX.neg h17 ?_
    by_cases h18 : (a 0 &&& 31) = 18
    · refine EX.pos h18 ?_
      exact lq_18 A I G
    refine EX.neg h18 ?_
    by_cases h19 : (a 0 &&& 31) = 19
    · refine EX.pos h19 ?_
      exact lq_19 A I G
    refine EX.neg h19 ?_
    exact G h (lq_up I)
end PLOP
