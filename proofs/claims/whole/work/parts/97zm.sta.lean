section PSTA
/-- nothing yet -/
def xc0 : xC := (0, 0, fun _ => (0, 0), fun _ _ => 0, fun _ _ => none)
def mS0 : mS := (fun _ => 0, fun _ _ => 0)
def rg0 (a : Nat) : Nat := if 18 ≤ a ∧ a < 168 then 350 else if a < 224 then 1000 + a else 9999
def gh0 : Gh := (fun _ => 0, fun _ _ => 0, fun _ => 0, 18, 168, 173, rg0)
theorem MR_0 : MR mS0 st0 := ⟨⟨rfl, by decide, by decide, fun i hi => absurd hi (Nat.not_lt_zero _)⟩, ⟨rfl, fun e he => absurd he (Nat.not_lt_zero _)⟩, rfl, ⟨⟨rfl, fun i hi => absurd hi (Nat.not_lt_zero _)⟩, ⟨rfl, fun i hi => absurd hi (Nat.not_lt_zero _)⟩, ⟨rfl, fun i hi => absurd hi (Nat.not_lt_zero _)⟩, rfl, rfl⟩, rfl, fun i hi => absurd hi (Nat.not_lt_zero _)⟩
theorem wSt_0 : wSt st0 := ⟨⟨Nat.zero_le _, fun c hc => absurd hc (List.not_mem_nil)⟩, ⟨Nat.zero_le _, fun e he => absurd he (Nat.not_lt_zero _)⟩, Nat.zero_le _, ⟨⟨Nat.zero_le _, fun c hc => absurd hc (List.not_mem_nil), Nat.zero_le _, fun c hc => absurd hc (List.not_mem_nil), Nat.zero_le _, fun c hc => absurd hc (List.not_mem_nil), by decide, Nat.zero_le _⟩, fun c hc => absurd hc (List.not_mem_nil)⟩, Nat.zero_le _, fun q hq => absurd hq (List.not_mem_nil)⟩
theorem CR_0 {D C : xC} (I : iFa D) (E : eqO (fun a => a < 178 ∨ 224 ≤ a) D C) (hC : C.1 = 224) : CR C st0 gh0 := by
  obtain ⟨a1, a2, ⟨b1, b2, b3⟩, c5, ⟨p1, p2, p3⟩, n, x, s, t⟩ := I
  have hp : ∀ p, p = 168 ∨ p = 173 → ∀ i, i < 5 → p + i < 178 ∨ 224 ≤ p + i := by omega
  refine ⟨a1.kp E (by decide), a2.kp E (by decide) (by decide), ⟨⟨by rw [(E 3 (by decide)).2.1]; exact b1, by rw [(E 4 (by decide)).2.2]; exact b2, by rw [(E 3 (by decide)).1]; exact b3⟩, fun i j hi => absurd hi (Nat.not_lt_zero _), fun e he => absurd he (Nat.not_lt_zero _)⟩, by rw [(E 5 (by decide)).1]; exact c5, ⟨p1.kp E (hp 168 (Or.inl rfl)), p2.kp E (hp 168 (Or.inl rfl)), p3.kp E (hp 173 (Or.inr rfl)), Or.inl ⟨rfl, rfl⟩⟩, n.kp E (by decide), x.kp E fun a h1 h2 => by omega, ⟨s.kp E fun i hi => by omega, [], t.kp E (by decide) (by decide)⟩, fun e he => absurd he (Nat.not_lt_zero _), fun e he => absurd he (Nat.not_lt_zero _), fun e he => absurd he (Nat.not_lt_zero _), fun i hi => ?_, fun a ha => ?_, fun a ha => ?_⟩
  · show rg0 (18 + i) = 350
    unfold rg0
    rw [if_pos (by omega)]
  · show rg0 a = 9999
    unfold rg0
    rw [if_neg (by omega), if_neg (by omega)]
  · show rg0 a = 1000 + a
    unfold rg0
    rw [if_neg (by omega), if_pos (by omega)]
theorem RF_0 {h : xH} {m : Nat} (H : RM h m S0) : RF h m mS0 := by
  have e : ((mS0.1, mA mS0) : xS) = S0 := by
    unfold mS0 S0 mA
    refine Prod.ext rfl (funext fun k => ?_)
    dsimp only
    rw [List.map_const', List.length_range]
  unfold RF
  rw [e]
  exact H
def xF10 : List Value := [.null, .null, .null, .null, .null, .null, .null, .null]
def xF11 : List Value := [.null, .int 0, .int 0, .null, .null, .null, .null, .null, .null, .null, .null, .null, .null, .null, .null, .null, .null, .null, .null, .null, .null, .null, .null, .null, .null, .null, .null, .null, .null, .null, .null, .int 0, .int 0, .int 0, .int 0, .int 0, .int 0, .int 0, .int 0, .int 0, .int 0, .int 0, .int 0, .int 0, .null, .int 0, .null, .int 0, .int 0, .int 0, .null, .int 0, .null, .int 0, .null, .int 0, .int 0, .int 0, .null, .int 0, .null, .int 0, .null, .int 0, .null, .null, .null, .null, .int 0, .null, .null, .null, .null, .int 0]
theorem xF11_m : xF11 = (List.range 74).map (mIV 178 0) := rfl
/-- class and reference are made -/
theorem lq_new : ∃ h2 h4, fn111 (some 0) (xnew xh0 (10, xF10)) = some h2 ∧ xcv (xnew xh0 (10, xF10)) (some 0) 10 = some () ∧ h2.1 = 178 ∧ xcv (xnew h2 (11, xF11)) (some 178) 11 = some () ∧ fn140 (some 178) (xnew h2 (11, xF11)) = some h4 ∧ lwI h4 0 := by
  have W0 : WH xh0 xc0 := ⟨rfl, rfl, fun a ha => absurd ha (Nat.not_lt_zero _), fun a ha => absurd ha (Nat.not_lt_zero _)⟩
  obtain ⟨_, t1, W1, _⟩ := W0.add (ci := 10) (n := cN 10) (fs := xF10) rfl (Or.inl ⟨by decide, rfl⟩)
  have t1 : tR (cAdd xc0 10 (cN 10)) (some 0) 10 := t1
  obtain ⟨D, d1, d2, d3, d4⟩ := g111_s (C := cAdd xc0 10 (cN 10)) rfl
  obtain ⟨z, z1, W2, E2⟩ := g111_ok W1 rfl t1 d1
  have hz : z.1 = 178 := by rw [W2.1]; exact d3
  obtain ⟨_, t3, W3, _⟩ := W2.add (ci := 11) (n := cN 11) (fs := xF11) rfl (Or.inl ⟨by decide, rfl⟩)
  rw [d3] at t3
  have P0 : PM (xnew z (11, xF11)) (xnew z (11, xF11)) 178 0 := by
    refine ⟨by show z.1 + 1 = 179; omega, rfl, ?_, fun k hk h0 h1 => absurd h1 (by omega), fun a ha => rfl⟩
    rw [← hz, xnew_at, hz, xF11_m]
  obtain ⟨y, y1, y2, y3, y4, y5⟩ := fn140_spec P0
  have Fy := RF_0 y2
  have ye : ∀ a, a < 178 → y.2.2 a = cO D a := fun a ha => by
    rw [y5 a ha, xnew_ne (by omega)]
    exact W2.2.2.1 a (by omega)
  have Wy : WH y (rfC D y) := by
    refine WH_rf Fy (fun a ha hm => ?_) (fun a ha hm k hk hf b hb => ?_)
    · have h1 : a < 178 := by omega
      exact ⟨ye a h1, (W2.2.2.2 a (by omega)).1⟩
    · have h1 : a < 178 := by omega
      obtain ⟨b1, b2⟩ := (W2.2.2.2 a (by omega)).2 k hk hf b hb
      exact ⟨by show b < y.1; omega, by rw [rfC_k (by omega)]; exact b2⟩
  have hz2 : z.2.1 = D.2.1 := W2.2.1
  have hs : (cAdd xc0 10 (cN 10)).2.1 = 8 := rfl
  have hy2 : (xnew z (11, xF11)).2.1 = z.2.1 + 74 := rfl
  refine ⟨z, y, z1, W1.cv rfl t1 (by decide), hz, W3.cv rfl t3 (by decide), y1, rfC D y, mS0, st0, gh0, Wy, Fy, CR_0 d2 rfC_o y3, MR_0, wSt_0, fun b hb => ?_, by show y.1 ≤ _; omega, by show y.2.1 ≤ _; omega⟩
  have hb := (Option.some.inj hb).symm
  subst hb
  refine ⟨by show 0 < y.1; omega, ?_⟩
  rw [rfC_k (by omega), E2.2 0 (by decide)]
  rfl
theorem lq_all (xs : List Int32) (hx : xs.length ≤ 3072) : EX (fn234 xs xh0) (fun z => ((1 : Int32), z)) lwP := by
  obtain ⟨h2, h4, a1, a2, a3, a4, a5, a6⟩ := lq_new
  have L := lq_loop hx 600 xFuel 0 h4 (by omega) (by decide) (pFuel _ (by decide)) a6
  unfold fn234
  refine EX.bdS ?_
  refine EX.bd a2 ?_
  refine EX.bd a1 ?_
  refine EX.bdS ?_
  rw [a3]
  refine EX.bd a4 ?_
  refine EX.bd a5 ?_
  exact L
theorem xpure_all (xs : List Int32) (h : xs.length ≤ 3072) : xPure xs := by
  obtain ⟨h', e, p1, p2⟩ := lq_all xs h
  exact xPure_of e p1 p2
end PSTA
