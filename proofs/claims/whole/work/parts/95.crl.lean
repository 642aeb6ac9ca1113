section PCRL
variable {C C' C1 C2 : xC} {d : Nat} {bs : List Nat} {r : Rd} {F : Option (Nat × Nat)} {to : Nat}
/-- the frame of reading all -/
def rdV (d : Nat) (C C' : xC) : Prop := eqO (fun a => a ≠ 5 ∧ a ≠ 6 ∧ a ≠ 7 ∧ (a < d ∨ d + 150 ≤ a ∨ a = d + 1 ∨ a = d + 2 ∨ a = d + 3 ∨ a = d + 29)) C C' ∧ (∀ k, cR C' d k = cR C d k) ∧ (∀ k, k ≠ 3 → cR C' 5 k = cR C 5 k) ∧ sm C C'
theorem rdV.rfl' : rdV d C C := ⟨eqO.rfl', fun _ => rfl, fun _ _ => rfl, sm.rfl'⟩
theorem rdV.tr (a : rdV d C C1) (b : rdV d C1 C2) : rdV d C C2 := ⟨a.1.tr b.1, fun k => (b.2.1 k).trans (a.2.1 k), fun k hk => (b.2.2.1 k hk).trans (a.2.2.1 k hk), a.2.2.2.tr b.2.2.2⟩
theorem rdW.v (a : rdW d C C') : rdV d C C' := ⟨a.1, a.2.1, a.2.2.1, a.2.2.2.2⟩
theorem rdV.u4 {v : Int32} (hd : 17 < d) : rdV d C (uI C 5 4 v) := ⟨eqO.uI (fun h9 => h9.1 rfl), fun k => by rw [uI_r], fun k hk => by rw [uI_r], rfl, rfl⟩
theorem rS.kv (R : rS C d bs) (E : rdV d C C') : rS C' d bs := by
  obtain ⟨⟨a1, a2⟩, b, c, h⟩ := R
  obtain ⟨e1, e2, e3, _⟩ := E
  obtain ⟨t1, t2, t3, ⟨t4, t5, t6⟩, t7, t8, t9⟩ := b
  have k1 := e1 (d + 1) ⟨by omega, by omega, by omega, by omega⟩
  have k2 := e1 (d + 2) ⟨by omega, by omega, by omega, by omega⟩
  have k3 := e1 (d + 3) ⟨by omega, by omega, by omega, by omega⟩
  have k4 := e1 (d + 29) ⟨by omega, by omega, by omega, by omega⟩
  exact ⟨⟨by rw [e3 1 (by decide)]; exact a1, by rw [e3 2 (by decide)]; exact a2⟩, ⟨by rw [e2]; exact t1, by rw [k1.2.1]; exact t2, t3.imp fun _ h => h.kp e1 ⟨by omega, by omega, by omega, by omega⟩ ⟨by omega, by omega, by omega, by omega⟩, ⟨by rw [e2]; exact t4, by rw [k3.2.2]; exact t5, fun i hi => by rw [k3.2.1]; exact t6 i hi⟩, by rw [e2]; exact t7, by rw [k4.2.2]; exact t8, fun i hi => by rw [k4.2.1]; exact t9 i hi⟩, c.kp e1 ⟨by omega, by omega, by omega, by omega⟩ ⟨by omega, by omega, by omega, by omega⟩, h⟩
/-- whose comment it is -/
def oS (C : xC) (d a : Nat) (mb : Bool) : Prop := cR C d 5 = some a ∧ (a ≠ 5 ∧ a ≠ 6 ∧ a ≠ 7 ∧ (a < d ∨ d + 150 ≤ a)) ∧ (cR C a 2).isNone = !mb
theorem oS.kp {a : Nat} {mb : Bool} (h : oS C d a mb) (E : rdV d C C') : oS C' d a mb := by
  obtain ⟨h1, h2, h3⟩ := h
  exact ⟨by rw [E.2.1]; exact h1, h2, by rw [(E.1 a ⟨h2.1, h2.2.1, h2.2.2.1, by omega⟩).2.1]; exact h3⟩
theorem oS.g {a : Nat} {mb : Bool} (h : oS C d a mb) : g12 a C = some (bZ (!mb), C) := by
  unfold g12 gj12_12
  rw [← h.2.2]
  cases cR C a 2 with
  | none => rfl
  | some x => rfl
/-- the state between two lines -/
def lnS (C : xC) (d : Nat) (bs : List Nat) (r : Rd) (gap : Bool) (a : Nat) (mb : Bool) : Prop := rS C d bs ∧ cRd C d r ∧ fS C none ∧ nS C ∧ cR C 5 3 = opO d r ∧ cI C 5 4 = bZ gap ∧ oS C d a mb
theorem nS.u4 {v : Int32} (N : nS C) : nS (uI C 5 4 v) := by
  obtain ⟨n1, nm, n2⟩ := N
  exact ⟨by rw [uI_r]; exact n1, nm, n2.kp (P := fun a => a ≠ 5) (eqO.uI (fun h9 => h9 rfl)) (by decide) (by decide)⟩
/-- a line -/
theorem g61_1 {p gp : Nat} {gap mb : Bool} {a : Nat} (L : lnS C d bs r gap a mb) (hp : p < bs.length) (w : wRd (tx bs) bs.length p r) (hg : r.1.length = 0 → gap = true) {st : Nat} (hst : st ≤ p) (o1 : Option Nat) (n : Nat) : ∃ C', gl61_41 (n + 1) 5 o1 (nI p) (nI st) C = gl61_41 n 5 o1 (nI (sc (fun j => tx bs j == 10) p (bs.length - p) + 1)) (nI (st + 1)) C' ∧ rdV d C C' ∧ nS C' ∧ match rdLine bs mb p (sc (fun j => tx bs j == 10) p (bs.length - p)) gap r with
    | (r2, none) => fS C' none ∧ cRd C' d r2 ∧ cR C' 5 3 = opO d r2 ∧ cI C' 5 4 = bZ (decide (sc (fun j => tx bs j == 10) p (bs.length - p) ≤ skp (tx bs) p (sc (fun j => tx bs j == 10) p (bs.length - p))))
    | (_, some q) => fS C' (some q) := by
  obtain ⟨R, T, hF, N, h3, h4, O⟩ := L
  obtain ⟨⟨a1, a2⟩, b, t, hd⟩ := id R
  have t5 := t.2.2.2.2.1
  have l1 := ln_end (bs := bs) p (by omega)
  have lw := rdLine_w (mb := mb) (gap := gap) l1.2.1 l1.2.2 w l1.1 hg
  have hB : ∀ b ∈ r.1, bSo b ≤ 7 ∧ bDe b ≤ 2 := fun b hb => ⟨(w.2.2.1 b hb).1, (w.2.2.1 b hb).2.2.1⟩
  rw [gl61_41]
  dsimp only
  rw [if_neg (show ¬ (600 : Int32) ≤ nI st from nI_ge (a := st) (b := 600) (by omega) (by decide)), a2]
  simp only [bS]
  rw [t.2.1, if_neg (nI_ge hp (by omega)), if_pos (show cI C 5 5 = 0 from hF), show (10 : Int32) = nI 10 from rfl, t.p (by decide) (show p ≤ bs.length by omega) (by omega)]
  simp only [bS]
  generalize sc (fun j => tx bs j == 10) p (bs.length - p) = to at l1 lw ⊢
  rw [a2]
  simp only [bS]
  rw [t.k l1.1 (by omega)]
  simp only [bS]
  have k1 := skp_ge (f := tx bs) l1.1
  have e159 : ∀ (k : Nat) (D : xC), k < 4 → gj61_159 (gl61_41 n) 5 o1 (nI p) (nI st) (nI to) (nI (skp (tx bs) p to)) (nI k) D = gl61_41 n 5 o1 (nI (to + 1)) (nI (st + 1)) (uI D 5 4 (bZ (decide (k = 0)))) := fun k D hk => by
    unfold gj61_159 gj61_170
    rw [nI_1, nI_1]
    by_cases h : k = 0
    · rw [if_pos (show nI k = 0 by rw [h]; rfl), decide_eq_true h, if_pos (show (1 : Int32) &&& 1 = 1 by decide)]
      simp only [bS]
      exact Eq.refl _
    · rw [if_neg (nI_ne0 (by omega) (by omega)), decide_eq_false h, if_pos (show (0 : Int32) &&& 1 = 0 by decide)]
      simp only [bS]
      exact Eq.refl _
  unfold rdLine at lw ⊢
  dsimp only at lw ⊢
  rw [g64_s R (by omega) (by omega)]
  simp only [bS]
  generalize skp (tx bs) p to = x at k1 lw e159 ⊢
  by_cases c0 : to ≤ x
  · rw [if_pos c0, if_pos c0, if_neg (show ¬ nI 0 = 1 by decide), if_neg (show ¬ nI 0 = 2 by decide), if_neg (show ¬ nI 0 = 3 by decide), e159 0 C (by decide)]
    refine ⟨_, rfl, rdV.u4 hd, N.u4, ?_⟩
    dsimp only
    rw [decide_eq_true c0]
    exact ⟨hF.kp (by rw [uI_n (by omega)]) (by rw [uI_n (by omega)]), cRd_eq T (by have := w.1; omega) w.2.1 hd (eqO.uI (fun h9 => h9.1 rfl)), by rw [uI_r]; exact h3, by rw [uI_e]; rfl⟩
  · rw [if_neg c0] at lw ⊢
    rw [if_neg c0]
    -- a line function has been called
    have go : ∀ (k : Nat) (D : xC) (o : Rd × Option (Nat × Nat)), 0 < k → k < 4 → clO C D d o → (o.2 = none → wRd (tx bs) bs.length to o.1 ∧ (o.1.1.length = 0 → decide (to ≤ x) = true)) → ∃ C', gj61_159 (gl61_41 n) 5 o1 (nI p) (nI st) (nI to) (nI x) (nI k) D = gl61_41 n 5 o1 (nI (to + 1)) (nI (st + 1)) C' ∧ rdV d C C' ∧ nS C' ∧ match o with
        | (r2, none) => fS C' none ∧ cRd C' d r2 ∧ cR C' 5 3 = opO d r2 ∧ cI C' 5 4 = bZ (decide (to ≤ x))
        | (_, some q) => fS C' (some q) := fun k D o hk0 hk ho hw => by
      obtain ⟨o1', o2', o3'⟩ := ho
      rw [e159 k D hk, decide_eq_false (show ¬ k = 0 by omega), decide_eq_false c0]
      refine ⟨_, rfl, o1'.v.tr (rdV.u4 hd), o2'.u4, ?_⟩
      obtain ⟨r2, o⟩ := o
      cases o with
      | none =>
        dsimp only at hw o3' ⊢
        obtain ⟨w1, w2⟩ := hw rfl
        obtain ⟨y1, y2, y3⟩ := o3'
        refine ⟨y1.kp (by rw [uI_n (by omega)]) (by rw [uI_n (by omega)]), cRd_eq y2 (by have := w1.1; omega) w1.2.1 hd (eqO.uI (fun h9 => h9.1 rfl)), ?_, by rw [uI_e]⟩
        rw [uI_r, y3]
        unfold opO
        rw [if_neg fun h9 => by have := w2 h9; rw [decide_eq_false c0] at this; cases this]
      | some q =>
        dsimp only at o3' ⊢
        exact o3'.kp (by rw [uI_n (by omega)]) (by rw [uI_n (by omega)])
    by_cases c1 : tx bs x = 64
    · rw [if_pos c1] at lw ⊢
      rw [if_pos c1, if_pos (show nI 1 = 1 by decide)]
      obtain ⟨U, u1, u2⟩ := g71_s l1.2.1 l1.2.2 R T hF N w h3 (show x < to by omega)
      rw [u1]
      simp only [bS]
      exact go 1 U _ (by decide) (by decide) u2 lw
    · rw [if_neg c1] at lw ⊢
      rw [if_neg c1]
      cases c2 : isIt (tx bs) x to with
      | true =>
        rw [c2, if_pos rfl] at lw
        rw [if_pos rfl, if_neg (show ¬ nI 2 = 1 by decide), if_pos (show nI 2 = 2 by decide), if_pos rfl, pk_sub k1.1]
        obtain ⟨U, u1, u2⟩ := g67_s l1.2.1 l1.2.2 R T hF N w.1 w.2.1 hB h3 h4 (show x < to by omega) (show x - p ≤ 600 by omega)
        rw [u1]
        simp only [bS]
        exact go 2 U _ (by decide) (by decide) u2 lw
      | false =>
        rw [c2, if_neg (show ¬ false = true by decide)] at lw
        rw [if_neg (show ¬ false = true by decide), if_neg (show ¬ nI 3 = 1 by decide), if_neg (show ¬ nI 3 = 2 by decide), if_pos (show nI 3 = 3 by decide), if_neg (show ¬ false = true by decide)]
        obtain ⟨U, u1, u2⟩ := g68_s l1.2.1 l1.2.2 R T hF N w.1 w.2.1 hB h3 h4 hg O.1 O.g (show x < to by omega) (k1.2.2 (by omega))
        rw [u1]
        simp only [bS]
        exact go 3 U _ (by decide) (by decide) u2 lw
/-- the lines -/
theorem g61_l {mb : Bool} {a : Nat} (o1 : Option Nat) : ∀ m n p c gap st (r : Rd) (C : xC), bs.length < p + m → m < n → lnS C d bs r gap a mb → c ≤ p → c ≤ bs.length → wRd (tx bs) bs.length c r → (r.1.length = 0 → gap = true) → p ≤ bs.length + 1 → st ≤ p → ∃ C', gl61_41 n 5 o1 (nI p) (nI st) C = some C' ∧ rdV d C C' ∧ nS C' ∧ match rdAll bs mb m p gap r with
    | (r2, none) => fS C' none ∧ cRd C' d r2
    | (_, some q) => fS C' (some q) := by
  have fin : ∀ n p st (C : xC), rS C d bs → 0 < n → p ≤ bs.length + 1 → (bs.length ≤ p ∨ ¬ cI C 5 5 = 0) → gl61_41 n 5 o1 (nI p) (nI st) C = some C := fun n p st C R hn hp h => by
    have t5 := R.2.2.1.2.2.2.2.1
    obtain ⟨n, rfl⟩ : ∃ k, n = k + 1 := ⟨n - 1, by omega⟩
    rw [gl61_41]
    dsimp only
    unfold gj61_184
    by_cases h0 : (600 : Int32) ≤ nI st
    · rw [if_pos h0]
    · rw [if_neg h0, R.1.2]
      simp only [bS]
      rw [R.2.2.1.2.1]
      by_cases h1 : bs.length ≤ p
      · rw [if_pos (nI_le h1 (by omega))]
      · rw [if_neg (nI_ge (by omega) (by omega)), if_neg (h.resolve_left h1)]
  intro m
  induction m with
  | zero =>
    intro n p c gap st r C hm hn L _ _ w hg hp hst
    rw [fin n p st C L.1 (by omega) hp (Or.inl (by omega))]
    exact ⟨C, rfl, rdV.rfl', L.2.2.2.1, L.2.2.1, L.2.1⟩
  | succ m ih =>
    intro n p c gap st r C hm hn L hc hc2 w hg hp hst
    rw [rdAll]
    by_cases h : bs.length ≤ p
    · rw [if_pos h, fin n p st C L.1 (by omega) hp (Or.inl h)]
      exact ⟨C, rfl, rdV.rfl', L.2.2.2.1, L.2.2.1, L.2.1⟩
    · rw [if_neg h]
      obtain ⟨n, rfl⟩ : ∃ k, n = k + 1 := ⟨n - 1, by omega⟩
      have l1 := ln_end (bs := bs) p (by omega)
      have l2 := rdLine_w (mb := mb) (gap := gap) l1.2.1 l1.2.2 (w.mono hc) l1.1 hg
      obtain ⟨D, t1, t2, t4, t3⟩ := g61_1 (gp := 0) L (show p < bs.length by omega) (w.mono hc) hg hst o1 n
      rw [t1]
      dsimp only
      generalize sc (fun j => tx bs j == 10) p (bs.length - p) = to at l1 l2 t3 ⊢
      cases hq : rdLine bs mb p to gap r with
      | mk r2 o =>
        rw [hq] at t3 l2
        cases o with
        | none =>
          dsimp only at t3 l2 ⊢
          obtain ⟨l3, l4⟩ := l2 rfl
          obtain ⟨V, v1, v2, v4, v3⟩ := ih n (to + 1) to _ (st + 1) r2 D (by omega) (by omega) ⟨L.1.kv t2, t3.2.1, t3.1, t4, t3.2.2.1, t3.2.2.2, L.2.2.2.2.2.2.kp t2⟩ (by omega) l1.2.1 l3 l4 (by omega) (by omega)
          exact ⟨V, v1, t2.tr v2, v4, v3⟩
        | some q =>
          dsimp only at t3 ⊢
          have hc5 := rdLine_c (q := q) (by rw [hq])
          rw [fin n (to + 1) (st + 1) D (L.1.kv t2) (by omega) (by omega) (Or.inr (by rw [t3.1]; exact nI_ne0 (by omega) (by omega)))]
          exact ⟨D, rfl, t2, t4, t3⟩
end PCRL
