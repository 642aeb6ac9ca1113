section XCTAPE
/-- but for two cells all is the same -/
def F2 (t b : Nat) (h h' : xH) : Prop := h'.1 = h.1 ∧ h'.2.1 = h.2.1 ∧ ∀ a, a ≠ t → a ≠ b → h'.2.2 a = h.2.2 a
theorem F2.rfl' {t b : Nat} {h : xH} : F2 t b h h := ⟨rfl, rfl, fun _ _ _ => rfl⟩
theorem F2.tr {t b : Nat} {h h1 h2 : xH} (x : F2 t b h h1) (y : F2 t b h1 h2) : F2 t b h h2 := ⟨y.1.trans x.1, y.2.1.trans x.2.1, fun a h3 h4 => (y.2.2 a h3 h4).trans (x.2.2 a h3 h4)⟩
variable {h : xH} {t b room : Nat} {bs : List Nat}
theorem l98_step (hT : TextAt h t b room bs) (hl : bs.length < room) {x1 x2 : Int32} (hx : ¬ x2 < 0) (n : Nat) : ∃ h', l98_3 (n + 1) (some t) x1 x2 h = l98_3 n (some t) x1 (x2 + (-8)) h' ∧ TextAt h' t b room (bs ++ [bOf (xush x1 x2)]) ∧ F2 t b h h' := by
  have h1 := fn97_spec hT (xush x1 x2)
  rw [if_pos hl] at h1
  obtain ⟨h', e1, T1, z1, z2, z3⟩ := h1
  refine ⟨h', ?_, T1, z1, z2, z3⟩
  rw [l98_3]
  simp only [if_neg hx]
  rw [hT.cv, e1]
  rfl
theorem fn98_spec (hT : TextAt h t b room bs) (hl : bs.length + 4 ≤ room) (x : Int32) : ∃ h', fn98 (some t) x h = some h' ∧ TextAt h' t b room (bs ++ b4 x) ∧ F2 t b h h' := by
  obtain ⟨k, hk⟩ := xFuel_ge (n := 5) (by omega)
  unfold fn98
  rw [hk, show 5 + k = k + 1 + 1 + 1 + 1 + 1 by omega]
  obtain ⟨h1, e1, T1, F1⟩ := l98_step hT (by omega) (x1 := x) (x2 := 24) (by decide) (k + 1 + 1 + 1 + 1)
  obtain ⟨h2, e2, T2, F2'⟩ := l98_step T1 (by simp; omega) (x1 := x) (x2 := 16) (by decide) (k + 1 + 1 + 1)
  obtain ⟨h3, e3, T3, F3⟩ := l98_step T2 (by simp; omega) (x1 := x) (x2 := 8) (by decide) (k + 1 + 1)
  obtain ⟨h4, e4, T4, F4⟩ := l98_step T3 (by simp; omega) (x1 := x) (x2 := 0) (by decide) (k + 1)
  refine ⟨h4, ?_, ?_, ((F1.tr F2').tr F3).tr F4⟩
  · rw [e1, show (24 : Int32) + (-8) = 16 by decide, e2, show (16 : Int32) + (-8) = 8 by decide, e3, show (8 : Int32) + (-8) = 0 by decide, e4, l98_3]
    exact if_pos (show (0 : Int32) + (-8) < 0 by decide)
  · simpa [b4] using T4
/-- the class's own object -/
def OA (h : xH) (x : Nat) (fs : List Value) : Prop := x < h.1 ∧ h.2.2 x = (10, fs)
theorem OA.keep {h h' : xH} {x : Nat} {fs : List Value} (H : OA h x fs) (F : F2 t b h h') (h1 : x ≠ t) (h2 : x ≠ b) : OA h' x fs := ⟨by rw [F.1]; exact H.1, by rw [F.2.2 x h1 h2]; exact H.2⟩
theorem OA.gR {x : Nat} {fs : List Value} (H : OA h x fs) (k : Nat) {o : Option Nat} (hv : fs[k]? = some (xrv o)) : xgR h (some x) 10 k = some o := xgR_of H.2 H.1 (by omega) hv
theorem TextAt.gI (hT : TextAt h t b room bs) : xgI h (some t) 9 1 = some (nI bs.length) := xgI_of hT.2.2.2.1 hT.1 (by omega) rfl
/-- feed of the class -/
theorem fn112_spec {x : Nat} {fs : List Value} (H : OA h x fs) (hf : fs[0]? = some (.ref t)) (hT : TextAt h t b 600 bs) (hxt : x ≠ t) (hxb : x ≠ b) (p q r s u : Int32) : (bs.length + 20 ≤ 600 → ∃ h', fn112 (some x) p q r s u h = some (nI (bs.length + 20), h') ∧ TextAt h' t b 600 (bs ++ b4 p ++ b4 q ++ b4 r ++ b4 s ++ b4 u) ∧ F2 t b h h') ∧ (¬ bs.length + 20 ≤ 600 → fn112 (some x) p q r s u h = some (-3, h)) := by
  have e20 : nI bs.length + 20 = nI (bs.length + 20) := nI_add bs.length 20
  have hle0 := hT.2.2.2.2.2.1
  unfold fn112
  rw [H.gR 0 (o := some t) hf]
  simp only [Option.bind_some]
  rw [hT.gI]
  simp only [Option.bind_some]
  rw [e20]
  constructor
  · intro hl
    obtain ⟨h1, e1, T1, F1⟩ := fn98_spec hT (by omega) p
    obtain ⟨h2, e2, T2, G2⟩ := fn98_spec T1 (by simp [b4]; omega) q
    obtain ⟨h3, e3, T3, F3⟩ := fn98_spec T2 (by simp [b4]; omega) r
    obtain ⟨h4, e4, T4, F4⟩ := fn98_spec T3 (by simp [b4]; omega) s
    obtain ⟨h5, e5, T5, F5⟩ := fn98_spec T4 (by simp [b4]; omega) u
    have O1 := H.keep F1 hxt hxb
    have O2 := O1.keep G2 hxt hxb
    have O3 := O2.keep F3 hxt hxb
    have O4 := O3.keep F4 hxt hxb
    have O5 := O4.keep F5 hxt hxb
    refine ⟨h5, ?_, T5, (((F1.tr G2).tr F3).tr F4).tr F5⟩
    have hle : nI (bs.length + 20) ≤ 600 := nI_le (b := 600) hl (by omega)
    simp only [if_pos hle]
    rw [hT.cv, e1]
    simp only [Option.bind_some]
    rw [O1.gR 0 (o := some t) hf]
    simp only [Option.bind_some]
    rw [T1.cv, e2]
    simp only [Option.bind_some]
    rw [O2.gR 0 (o := some t) hf]
    simp only [Option.bind_some]
    rw [T2.cv, e3]
    simp only [Option.bind_some]
    rw [O3.gR 0 (o := some t) hf]
    simp only [Option.bind_some]
    rw [T3.cv, e4]
    simp only [Option.bind_some]
    rw [O4.gR 0 (o := some t) hf]
    simp only [Option.bind_some]
    rw [T4.cv, e5]
    simp only [Option.bind_some]
    rw [O5.gR 0 (o := some t) hf]
    simp only [Option.bind_some]
    rw [T5.gI]
    simp [b4]
  · intro hl
    have hle : ¬ nI (bs.length + 20) ≤ 600 := fun h9 => hl ((nI_leI (b := 600) (by omega) (by omega)).mp h9)
    simp only [if_neg hle]
/-- end of the class -/
theorem fn113_spec {x : Nat} {fs : List Value} (H : OA h x fs) (hf : fs[0]? = some (.ref t)) (hT : TextAt h t b 600 bs) (y : Int32) : (∀ n, n ≤ bs.length → y = nI n → ∃ h', fn113 (some x) y h = some (nI bs.length, h') ∧ TextAt h' t b 600 (bs.take n) ∧ F2 t b h h') ∧ (¬ (0 ≤ y ∧ y ≤ nI bs.length) → fn113 (some x) y h = some (-1, h)) := by
  have hle0 := hT.2.2.2.2.2.1
  unfold fn113
  rw [H.gR 0 (o := some t) hf]
  simp only [Option.bind_some]
  rw [hT.gI]
  simp only [Option.bind_some]
  constructor
  · rintro n hn rfl
    obtain ⟨h1, e1, T1, z1, z2, z3⟩ := fn101_spec hT n hn
    refine ⟨h1, ?_, T1, z1, z2, fun a h9 _ => z3 a h9⟩
    simp only [if_neg (nI_pos (show n < 2 ^ 31 by omega)), if_pos (nI_le hn (show bs.length < 2 ^ 31 by omega))]
    rw [hT.cv, e1]
    rfl
  · intro hn
    by_cases h1 : y < 0
    · simp only [if_pos h1]
      rfl
    · have h2 : ¬ y ≤ nI bs.length := fun h9 => hn ⟨Int32.not_lt.mp h1, h9⟩
      simp only [if_neg h1, if_neg h2]
      rfl
end XCTAPE
