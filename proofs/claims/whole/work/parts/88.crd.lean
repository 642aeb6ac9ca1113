section PCRD
variable {C C' C1 C2 : xC} {d : Nat} {bs : List Nat} {r : Rd}
theorem uI_e {a k : Nat} {v : Int32} : cI (uI C a k v) a k = v := if_pos ⟨rfl, rfl⟩
theorem uI_n {a k c j : Nat} {v : Int32} (h : c ≠ a ∨ j ≠ k) : cI (uI C a k v) c j = cI C c j := if_neg fun h9 => by omega
theorem uI_r {a k c j : Nat} {v : Int32} : cR (uI C a k v) c j = cR C c j := congrFun (congrFun (show (uI C a k v).2.2.2.2 = C.2.2.2.2 from rfl) c) j
theorem uR_i {a k c j : Nat} {v : Option Nat} : cI (uR C a k v) c j = cI C c j := congrFun (congrFun (show (uR C a k v).2.2.2.1 = C.2.2.2.1 from rfl) c) j
theorem uR_e {a k : Nat} {v : Option Nat} : cR (uR C a k v) a k = v := if_pos ⟨rfl, rfl⟩
theorem uR_n {a k c j : Nat} {v : Option Nat} (h : c ≠ a ∨ j ≠ k) : cR (uR C a k v) c j = cR C c j := if_neg fun h9 => by omega
/-- the frame of reading into the comment at d -/
def rdE (d : Nat) (C C' : xC) : Prop := eqO (fun a => a ≠ 5 ∧ (a < d ∨ d + 150 ≤ a ∨ a = d + 1 ∨ a = d + 2 ∨ a = d + 3 ∨ a = d + 29)) C C' ∧ (∀ k, cR C' d k = cR C d k) ∧ (∀ k, k ≠ 3 → cR C' 5 k = cR C 5 k) ∧ cI C' 5 4 = cI C 5 4 ∧ sm C C'
theorem rdE.rfl' : rdE d C C := ⟨eqO.rfl', fun _ => rfl, fun _ _ => rfl, rfl, sm.rfl'⟩
theorem rdE.tr (a : rdE d C C1) (b : rdE d C1 C2) : rdE d C C2 := ⟨a.1.tr b.1, fun k => (b.2.1 k).trans (a.2.1 k), fun k hk => (b.2.2.1 k hk).trans (a.2.2.1 k hk), b.2.2.2.1.trans a.2.2.2.1, a.2.2.2.2.tr b.2.2.2.2⟩
/-- the same, with the reader's name -/
def rdW (d : Nat) (C C' : xC) : Prop := eqO (fun a => a ≠ 5 ∧ a ≠ 6 ∧ a ≠ 7 ∧ (a < d ∨ d + 150 ≤ a ∨ a = d + 1 ∨ a = d + 2 ∨ a = d + 3 ∨ a = d + 29)) C C' ∧ (∀ k, cR C' d k = cR C d k) ∧ (∀ k, k ≠ 3 → cR C' 5 k = cR C 5 k) ∧ cI C' 5 4 = cI C 5 4 ∧ sm C C'
theorem rdW.tr (a : rdW d C C1) (b : rdW d C1 C2) : rdW d C C2 := ⟨a.1.tr b.1, fun k => (b.2.1 k).trans (a.2.1 k), fun k hk => (b.2.2.1 k hk).trans (a.2.2.1 k hk), b.2.2.2.1.trans a.2.2.2.1, a.2.2.2.2.tr b.2.2.2.2⟩
theorem rdE.w (a : rdE d C C') : rdW d C C' := ⟨a.1.mono fun _ h => ⟨h.1, h.2.2.2⟩, a.2⟩
/-- the reader, reading a text into the comment at d -/
def rS (C : xC) (d : Nat) (bs : List Nat) : Prop := (cR C 5 1 = some d ∧ cR C 5 2 = some (d + 1)) ∧ cSh C d ∧ TX C (d + 1) (d + 2) 600 bs ∧ 17 < d
theorem cSh_rdE (T : cSh C d) (hd : 17 < d) (E : rdW d C C') : cSh C' d := by
  obtain ⟨e1, e2, _, _, _⟩ := E
  obtain ⟨t1, t2, t3, ⟨t4, t5, t6⟩, t7, t8, t9⟩ := T
  have k1 := e1 (d + 1) ⟨by omega, by omega, by omega, by omega⟩
  have k2 := e1 (d + 2) ⟨by omega, by omega, by omega, by omega⟩
  have k3 := e1 (d + 3) ⟨by omega, by omega, by omega, by omega⟩
  have k4 := e1 (d + 29) ⟨by omega, by omega, by omega, by omega⟩
  exact ⟨by rw [e2]; exact t1, by rw [k1.2.1]; exact t2, t3.imp fun _ h => h.kp e1 ⟨by omega, by omega, by omega, by omega⟩ ⟨by omega, by omega, by omega, by omega⟩, ⟨by rw [e2]; exact t4, by rw [k3.2.2]; exact t5, fun i hi => by rw [k3.2.1]; exact t6 i hi⟩, by rw [e2]; exact t7, by rw [k4.2.2]; exact t8, fun i hi => by rw [k4.2.1]; exact t9 i hi⟩
theorem rS.kw (R : rS C d bs) (E : rdW d C C') : rS C' d bs := by
  obtain ⟨⟨a1, a2⟩, b, c, h⟩ := R
  exact ⟨⟨by rw [E.2.2.1 1 (by decide)]; exact a1, by rw [E.2.2.1 2 (by decide)]; exact a2⟩, cSh_rdE b h E, c.kp E.1 ⟨by omega, by omega, by omega, by omega⟩ ⟨by omega, by omega, by omega, by omega⟩, h⟩
theorem rS.kp (R : rS C d bs) (E : rdE d C C') : rS C' d bs := R.kw E.w
/-- the reader's name -/
def nS (C : xC) : Prop := cR C 5 0 = some 6 ∧ ∃ nm, TX C 6 7 10 nm
theorem nS.kp (N : nS C) (hd : 17 < d) (E : rdE d C C') : nS C' := by
  obtain ⟨n1, nm, n2⟩ := N
  exact ⟨by rw [E.2.2.1 0 (by decide)]; exact n1, nm, n2.kp E.1 ⟨by omega, by omega⟩ ⟨by omega, by omega⟩⟩
/-- faults: the first place, the least code -/
def cmb (F G : Option (Nat × Nat)) : Option (Nat × Nat) := match G with
  | none => F
  | some g => match F with
    | none => some g
    | some f => if g.2 < f.2 ∨ (g.2 = f.2 ∧ g.1 < f.1) then some g else some f
theorem cmb_n (F : Option (Nat × Nat)) : cmb F none = F := rfl
theorem n_cmb (F : Option (Nat × Nat)) : cmb none F = F := by cases F <;> rfl
def fS (C : xC) (F : Option (Nat × Nat)) : Prop := match F with
  | none => cI C 5 5 = 0
  | some f => cI C 5 5 = nI f.1 ∧ cI C 5 6 = nI f.2 ∧ 0 < f.1 ∧ f.1 < 10 ∧ f.2 < 1000
theorem fS.kp {F : Option (Nat × Nat)} (h : fS C F) (h5 : cI C' 5 5 = cI C 5 5) (h6 : cI C' 5 6 = cI C 5 6) : fS C' F := by
  cases F with
  | none => exact h5.trans h
  | some f => exact ⟨h5.trans h.1, h6.trans h.2.1, h.2.2⟩
theorem rdE_5 {k : Nat} {v : Int32} (hk : k ≠ 4) : rdE d C (uI C 5 k v) := by
  refine ⟨eqO.uI (fun h9 => h9.1 rfl), fun _ => rfl, fun _ _ => rfl, ?_, rfl, rfl⟩
  rw [uI_I, if_neg fun h9 => hk h9.2.symm]
/-- refuse -/
theorem g62_s {F : Option (Nat × Nat)} (h : fS C F) {c p : Nat} (hc : 0 < c ∧ c < 10) (hp : p < 1000) : ∃ C', g62 5 (nI p) (nI c) C = some C' ∧ fS C' (cmb F (some (c, p))) ∧ eqO (fun a => a ≠ 5) C C' ∧ (∀ k, cR C' 5 k = cR C 5 k) ∧ (∀ d, rdE d C C') := by
  have e31 : ∃ C', gj62_31 5 (nI p) (nI c) C = some C' ∧ fS C' (some (c, p)) ∧ eqO (fun a => a ≠ 5) C C' ∧ (∀ k, cR C' 5 k = cR C 5 k) ∧ (∀ d, rdE d C C') := by
    unfold gj62_31 gj62_41
    simp only [bS]
    refine ⟨_, rfl, ⟨?_, ?_, hc.1, hc.2, hp⟩, (eqO.uI (fun h9 => h9 rfl)).tr (eqO.uI (fun h9 => h9 rfl)), fun _ => rfl, fun d => (rdE_5 (by decide)).tr (rdE_5 (by decide))⟩
    · rw [uI_I, if_neg (by simp), uI_I, if_pos ⟨rfl, rfl⟩]
    · rw [uI_I, if_pos ⟨rfl, rfl⟩]
  unfold g62
  cases F with
  | none =>
    have h : cI C 5 5 = 0 := h
    rw [if_pos h]
    exact e31
  | some f =>
    obtain ⟨h1, h2, h3, h4, h5⟩ := h
    have stay : ∃ C', gj62_41 5 (nI p) (nI c) C = some C' ∧ fS C' (some f) ∧ eqO (fun a => a ≠ 5) C C' ∧ (∀ k, cR C' 5 k = cR C 5 k) ∧ (∀ d, rdE d C C') := ⟨C, rfl, ⟨h1, h2, h3, h4, h5⟩, eqO.rfl', fun _ => rfl, fun _ => rdE.rfl'⟩
    rw [h1, h2, if_neg (nI_ne0 h3 (by omega))]
    unfold cmb
    dsimp only
    by_cases a1 : p < f.2
    · rw [if_pos (nI_lt a1 (by omega)), if_pos (Or.inl a1)]
      exact e31
    · rw [if_neg (nI_nlt (by omega) (by omega))]
      by_cases a2 : p = f.2
      · rw [if_pos (by rw [a2])]
        by_cases a3 : f.1 ≤ c
        · rw [if_pos (nI_le a3 (by omega)), if_neg (by omega)]
          exact stay
        · rw [if_neg (nI_ge (by omega) (by omega)), if_pos (Or.inr ⟨a2, by omega⟩)]
          exact e31
      · rw [if_neg (nI_ne a2 (by omega) (by omega)), if_neg (by omega)]
        exact stay
/-- the draft's blocks and pieces stay where its cells stay -/
theorem cRd_eq (T : cRd C d r) (h1 : r.1.length ≤ 25) (h2 : r.2.length ≤ 120) (hd : 17 < d) (E : eqO (fun a => a ≠ 5 ∧ a ≠ 6 ∧ a ≠ 7) C C') : cRd C' d r := T.kp E h1 h2 fun i _ => ⟨by omega, by omega, by omega⟩
/-- a new block -/
theorem g7_s (S : cSh C d) (T : cRd C d r) (hd : 17 < d) (h25 : r.1.length < 25) (h120 : r.2.length ≤ 120) (so pl : Nat) : ∃ C', g7 d (nI so) (nI pl) C = some (some (d + 4 + r.1.length), C') ∧ cRd C' d (opn r so pl 0 0 0 false) ∧ rdE d C C' ∧ (∀ k, cR C' 5 k = cR C 5 k) ∧ (∀ k, cI C' 5 k = cI C 5 k) := by
  obtain ⟨⟨t1, t2⟩, t3, t4⟩ := T
  obtain ⟨s1, s2, s3, ⟨s4, s5, s6⟩, s7, s8, s9⟩ := S
  unfold g7
  rw [s4]
  simp only [bS]
  rw [s5, t1, if_pos (show nI r.1.length < Int32.ofNat 25 from nI_lt h25 (by decide)), cLR_n (n := 25) h25 s5 (by decide), s6 _ h25]
  simp only [bS]
  have hne : d + 4 + r.1.length ≠ d := by omega
  refine ⟨_, rfl, ⟨⟨?_, fun k hk => ?_⟩, ?_, fun k hk => ?_⟩, ⟨?_, fun k => ?_, fun k _ => ?_, ?_, rfl, rfl⟩, fun k => ?_, fun k => ?_⟩
  · simp (disch := omega) only [uI_n, uI_e, uR_i, opn_len, nI_1]
  · rw [opn_len] at hk
    rw [opn_get]
    by_cases h : k = r.1.length
    · rw [if_pos h, h]
      refine ⟨?_, ?_, ?_, ?_, ?_, ?_, fun _ _ => ⟨?_, ?_⟩, ?_⟩
      · simp (disch := omega) only [uI_r, uR_e]
      · simp (disch := omega) only [uI_n, uI_e, uR_i]; rfl
      · simp (disch := omega) only [uI_n, uI_e, uR_i]; rfl
      · simp (disch := omega) only [uI_n, uI_e, uR_i]; rfl
      · simp (disch := omega) only [uI_n, uI_e, uR_i, t3]; rfl
      · simp (disch := omega) only [uI_n, uI_e, uR_i]; rfl
      · simp (disch := omega) only [uI_n, uI_e, uR_i]; rfl
      · simp (disch := omega) only [uI_n, uI_e, uR_i]; rfl
      · simp (disch := omega) only [uI_n, uI_e, uR_i]; rfl
    · rw [if_neg h]
      have b := t2 k (by omega)
      refine b.kp (P := fun a => a ≠ d ∧ a ≠ d + 4 + r.1.length) ?_ ⟨by omega, by omega⟩
      exact (((((((((eqO.uI (fun h9 => h9.1 rfl)).tr (eqO.uR (fun h9 => h9.2 rfl))).tr (eqO.uI (fun h9 => h9.2 rfl))).tr (eqO.uI (fun h9 => h9.2 rfl))).tr (eqO.uI (fun h9 => h9.2 rfl))).tr (eqO.uI (fun h9 => h9.2 rfl))).tr (eqO.uI (fun h9 => h9.2 rfl))).tr (eqO.uI (fun h9 => h9.2 rfl))).tr (eqO.uI (fun h9 => h9.2 rfl))).tr (eqO.uI (fun h9 => h9.2 rfl))
  · show _ = nI r.2.length
    simp (disch := omega) only [uI_n, uR_i, t3]
  · have b := t4 k hk
    refine b.kp (P := fun a => a ≠ d ∧ a ≠ d + 4 + r.1.length) ?_ ⟨by omega, by omega⟩
    exact (((((((((eqO.uI (fun h9 => h9.1 rfl)).tr (eqO.uR (fun h9 => h9.2 rfl))).tr (eqO.uI (fun h9 => h9.2 rfl))).tr (eqO.uI (fun h9 => h9.2 rfl))).tr (eqO.uI (fun h9 => h9.2 rfl))).tr (eqO.uI (fun h9 => h9.2 rfl))).tr (eqO.uI (fun h9 => h9.2 rfl))).tr (eqO.uI (fun h9 => h9.2 rfl))).tr (eqO.uI (fun h9 => h9.2 rfl))).tr (eqO.uI (fun h9 => h9.2 rfl))
  · exact (((((((((eqO.uI (fun h9 => by omega)).tr (eqO.uR (fun h9 => by omega))).tr (eqO.uI (fun h9 => by omega))).tr (eqO.uI (fun h9 => by omega))).tr (eqO.uI (fun h9 => by omega))).tr (eqO.uI (fun h9 => by omega))).tr (eqO.uI (fun h9 => by omega))).tr (eqO.uI (fun h9 => by omega))).tr (eqO.uI (fun h9 => by omega))).tr (eqO.uI (fun h9 => by omega))
  · simp (disch := omega) only [uI_r, uR_n]
  · simp (disch := omega) only [uI_r, uR_n]
  · simp (disch := omega) only [uI_n, uR_i]
  · simp (disch := omega) only [uI_r, uR_n]
  · simp (disch := omega) only [uI_n, uR_i]
/-- a new piece -/
theorem g8_s (S : cSh C d) (T : cRd C d r) (hd : 17 < d) (h25 : r.1.length ≤ 25) (h120 : r.2.length < 120) (pl to : Nat) : ∃ C', g8 d (nI pl) (nI to) C = some (some (d + 30 + r.2.length), C') ∧ cRd C' d (r.1, r.2 ++ [(0, pl, pl, to, 0, 0, false)]) ∧ rdE d C C' ∧ (∀ k, cR C' 5 k = cR C 5 k) ∧ (∀ k, cI C' 5 k = cI C 5 k) := by
  obtain ⟨⟨t1, t2⟩, t3, t4⟩ := T
  obtain ⟨s1, s2, s3, ⟨s4, s5, s6⟩, s7, s8, s9⟩ := S
  unfold g8
  rw [s7]
  simp only [bS]
  rw [s8, t3, if_pos (show nI r.2.length < Int32.ofNat 120 from nI_lt h120 (by decide)), cLR_n (n := 120) h120 s8 (by decide), s9 _ h120]
  simp only [bS]
  have E : ∀ P : Nat → Prop, ¬ P d → ¬ P (d + 30 + r.2.length) → eqO P C (uI (uI (uI (uI (uI (uI (uI (uI C d 4 (nI r.2.length + 1)) (d + 30 + r.2.length) 0 0) (d + 30 + r.2.length) 1 (nI pl)) (d + 30 + r.2.length) 2 (nI pl)) (d + 30 + r.2.length) 3 (nI to)) (d + 30 + r.2.length) 4 0) (d + 30 + r.2.length) 5 0) (d + 30 + r.2.length) 6 0) := fun P h1 h2 => (((((((eqO.uI h1).tr (eqO.uI h2)).tr (eqO.uI h2)).tr (eqO.uI h2)).tr (eqO.uI h2)).tr (eqO.uI h2)).tr (eqO.uI h2)).tr (eqO.uI h2)
  refine ⟨_, rfl, ⟨⟨?_, fun k hk => ?_⟩, ?_, fun k hk => ?_⟩, ⟨?_, fun k => rfl, fun k _ => rfl, ?_, rfl, rfl⟩, fun k => rfl, fun k => ?_⟩
  · show _ = nI r.1.length
    simp (disch := omega) only [uI_n, t1]
  · have b := t2 k hk
    exact b.kp (E (fun a => a ≠ d ∧ a ≠ d + 30 + r.2.length) (fun h9 => h9.1 rfl) (fun h9 => h9.2 rfl)) ⟨by omega, by have hk : k < r.1.length := hk; omega⟩
  · simp (disch := omega) only [uI_n, uI_e, nI_1]
    simp
  · have hk : k < (r.2 ++ [(0, pl, pl, to, 0, 0, false)]).length := hk
    simp only [List.length_append, List.length_singleton] at hk
    show cPc _ (d + 30 + k) ((r.2 ++ [(0, pl, pl, to, 0, 0, false)]).getD k pcD)
    rw [gD_app hk]
    by_cases h : k = r.2.length
    · rw [if_pos h, h]
      refine ⟨?_, ?_, ?_, ?_, fun h9 => absurd h9 (by show ¬ (0 : Nat) = 2; decide), ?_⟩
      · simp (disch := omega) only [uI_n, uI_e]; rfl
      · simp (disch := omega) only [uI_n, uI_e]; rfl
      · simp (disch := omega) only [uI_n, uI_e]; rfl
      · simp (disch := omega) only [uI_n, uI_e]; rfl
      · simp (disch := omega) only [uI_n, uI_e]; rfl
    · rw [if_neg h]
      have b := t4 k (by omega)
      exact b.kp (E (fun a => a ≠ d ∧ a ≠ d + 30 + r.2.length) (fun h9 => h9.1 rfl) (fun h9 => h9.2 rfl)) ⟨by omega, by omega⟩
  · exact E _ (fun h9 => by omega) (fun h9 => by omega)
  · simp (disch := omega) only [uI_n]
  · simp (disch := omega) only [uI_n]
end PCRD
