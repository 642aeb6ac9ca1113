section PCTX
variable {C C' : xC} {d : Nat} {bs : List Nat} {r : Rd} {F : Option (Nat × Nat)} {to : Nat}
theorem cmb_s {c e p : Nat} (h : e < c) : cmb (some (c, p)) (some (e, p)) = some (e, p) := if_pos (Or.inr ⟨rfl, h⟩)
/-- the first block of a sort -/
def ix9 (l : List Bk) (s : Nat) : Nat → Nat → Option Nat
  | 0, _ => none
  | n + 1, i => if bSo (l.getD i bkD) = s then some i else ix9 l s n (i + 1)
theorem ix9_n {l : List Bk} {s : Nat} : ∀ n i, i + n = l.length → (ix9 l s n i = none ↔ ∀ k, i ≤ k → k < l.length → ¬ bSo (l.getD k bkD) = s) := by
  intro n
  induction n with
  | zero => intro i hi; exact ⟨fun _ k h1 h2 => by omega, fun _ => rfl⟩
  | succ n ih =>
    intro i hi
    rw [ix9]
    by_cases h : bSo (l.getD i bkD) = s
    · rw [if_pos h]
      exact ⟨fun h9 => (by cases h9), fun h9 => absurd h (h9 i (Nat.le_refl _) (by omega))⟩
    · rw [if_neg h, ih (i + 1) (by omega)]
      refine ⟨fun h9 k h1 h2 => ?_, fun h9 k h1 h2 => h9 k (by omega) h2⟩
      by_cases hk : k = i
      · rw [hk]
        exact h
      · exact h9 k (by omega) h2
theorem ix9_a {l : List Bk} {s : Nat} : ix9 l s l.length 0 = none ↔ (l.any fun b => bSo b == s) = false := by
  rw [ix9_n l.length 0 (by omega), List.any_eq_false]
  refine ⟨fun h b hb h9 => ?_, fun h k _ hk h9 => h _ (gD_mem (d := bkD) hk) (by simpa using h9)⟩
  obtain ⟨k, hk, rfl⟩ := List.mem_iff_getElem.mp hb
  refine h k (by omega) hk ?_
  rw [List.getD_eq_getElem?_getD, List.getElem?_eq_getElem hk]
  simpa using h9
theorem g9_s (S : cSh C d) (T : cRd C d r) (h25 : r.1.length ≤ 25) (hB : ∀ b ∈ r.1, bSo b ≤ 7 ∧ bDe b ≤ 2) {s : Nat} (hs : s < 2 ^ 31) : g9 d (nI s) C = some ((ix9 r.1 s r.1.length 0).map (fun k => d + 4 + k), C) := by
  obtain ⟨⟨t1, t2⟩, t3, t4⟩ := T
  obtain ⟨s1, s2, s3, ⟨s4, s5, s6⟩, s7, s8, s9⟩ := S
  have key : ∀ k n i, i + k = r.1.length → k < n → gl9_2 n d (nI s) (nI i) C = some ((ix9 r.1 s k i).map (fun k => d + 4 + k), C) := by
    intro k
    induction k with
    | zero =>
      intro n i hi hn
      obtain ⟨n, rfl⟩ : ∃ m, n = m + 1 := ⟨n - 1, by omega⟩
      rw [gl9_2]
      dsimp only
      rw [t1, if_pos (nI_le (by omega) (by omega))]
      rfl
    | succ k ih =>
      intro n i hi hn
      obtain ⟨n, rfl⟩ : ∃ m, n = m + 1 := ⟨n - 1, by omega⟩
      have hb := hB _ (gD_mem (l := r.1) (i := i) (d := bkD) (by omega))
      rw [gl9_2, ix9]
      dsimp only
      rw [t1, if_neg (nI_ge (by omega) (by omega)), s4]
      simp only [bS]
      rw [cLR_n (n := 25) (by omega) s5 (by decide), s6 _ (by omega)]
      simp only [bS]
      rw [(t2 i (by omega)).2.1]
      by_cases h : bSo (r.1.getD i bkD) = s
      · rw [if_pos (by rw [h]), if_pos h]
        rfl
      · rw [if_neg (nI_ne h (by omega) hs), if_neg h, nI_1]
        exact ih n (i + 1) (by omega) (by omega)
  exact key r.1.length xFuel 0 (by omega) (pFuel _ (by omega))
theorem g2_s {b so : Nat} (h : cI C b 1 = nI so) (hs : so < 2 ^ 31) : g2 b C = some (bZ (decide (so = 5 ∨ so = 6)), C) := by
  unfold g2 gj2_17 gj2_22
  rw [h]
  by_cases h5 : so = 5
  · rw [if_pos (by rw [h5]; rfl), decide_eq_true (Or.inl h5)]
    rfl
  · rw [if_neg (show ¬ _ = (5 : Int32) from nI_ne h5 hs (by decide))]
    by_cases h6 : so = 6
    · rw [if_pos (by rw [h6]; rfl), decide_eq_true (Or.inr h6)]
      rfl
    · rw [if_neg (show ¬ _ = (6 : Int32) from nI_ne h6 hs (by decide)), decide_eq_false (by omega)]
      rfl
/-- inherit stands alone -/
theorem g69_s (R : rS C d bs) (ht : to ≤ bs.length) (hE : tx bs to = 10 ∨ 256 ≤ tx bs to) {mb : Bool} {a : Nat} (h5 : cR C d 5 = some a) (h12 : g12 a C = some (bZ (!mb), C)) {fi : Nat} (hfi : fi < to) : g69 5 (nI fi) (nI to) C = some (bZ (isInh (tx bs) bs.length mb fi to), C) := by
  obtain ⟨⟨a1, a2⟩, b, t, hd⟩ := id R
  have t5 := t.2.2.2.2.1
  have w0 : g104 (d + 1) (nI fi) 0 C = some (bZ (isW (tx bs) fi wInh), C) := g104_s t (by decide) (by omega)
  unfold g69 gj69_36 gj69_108 isInh
  rw [a2]
  simp only [bS]
  rw [w0]
  simp only [bS, bZ_0]
  cases hw : isW (tx bs) fi wInh with
  | false =>
    rw [if_pos (Eq.refl false)]
    cases mb <;> rfl
  | true =>
    have i9 := isW_in hE wInh fi (by decide) (by omega) hw
    rw [show wInh.length = 9 from rfl] at i9
    rw [if_neg (show ¬ true = false by decide), a1]
    simp only [bS]
    rw [h5, if_neg (by simp)]
    simp only [bS]
    rw [h12]
    simp only [bS, bZ_0]
    cases mb with
    | false =>
      rw [if_neg (by decide)]
      rfl
    | true =>
      rw [if_pos (show (!true) = false from rfl), (wQ_ok 0 (by decide)).2.1, a2]
      simp only [bS]
      rw [show nI (wQ 0).length = nI 9 from rfl, nI_add, t.k i9 (by omega)]
      simp only [bS]
      have k1 := skp_ge (f := tx bs) i9
      by_cases h1 : to ≤ skp (tx bs) (fi + 9) to
      · rw [if_pos (nI_le h1 (by omega)), decide_eq_true h1, a2]
        simp only [bS]
        rw [nI_1, t.2.1]
        have e5 : g105 (d + 1) 10 (nI (to + 1)) (nI bs.length) C = some (nI (sc (fun j => tx bs j == 10) (to + 1) (bs.length - (to + 1))), C) := by
          by_cases h2 : to + 1 ≤ bs.length
          · exact t.p (c := 10) (by decide) h2 (by omega)
          · rw [show bs.length - (to + 1) = 0 by omega]
            unfold g105
            rw [show xFuel = (xFuel - 1) + 1 by decide, gl105_3]
            dsimp only
            rw [if_pos (nI_le (by omega) (by omega))]
            rfl
        rw [e5]
        simp only [bS]
        have s1 := sc_ge (fun j => tx bs j == 10) (bs.length - (to + 1)) (to + 1)
        generalize sc (fun j => tx bs j == 10) (to + 1) (bs.length - (to + 1)) = e at s1 ⊢
        rw [a2]
        simp only [bS]
        rw [t.k s1.1 (by omega)]
        simp only [bS]
        have k2 := skp_ge (f := tx bs) s1.1
        generalize skp (tx bs) (to + 1) e = x at k2 ⊢
        rw [g64_s R (by omega) (by omega)]
        simp only [bS]
        by_cases c0 : e ≤ x
        · rw [if_pos c0, if_neg (by decide), decide_eq_true c0]
          rw [show (decide (bs.length ≤ to + 1) || true || tx bs x == 64 || isIt (tx bs) x e) = true by simp]
          rfl
        · rw [if_neg c0, decide_eq_false c0, decide_eq_false (show ¬ bs.length ≤ to + 1 by omega)]
          by_cases c1 : tx bs x = 64
          · rw [if_pos c1, if_neg (by decide), c1]
            rfl
          · rw [if_neg c1, show (tx bs x == 64) = false by simpa using c1]
            cases isIt (tx bs) x e with
            | true =>
              rw [if_pos rfl, if_neg (by decide)]
              rfl
            | false =>
              rw [if_neg (show ¬ false = true by decide), if_pos (by decide)]
              rfl
      · rw [if_neg (nI_ge (by omega) (by omega)), decide_eq_false h1]
        rfl
theorem pcs_f1 (f : Nat → Nat) (hE : f to = 10 ∨ 256 ≤ f to) {m i : Nat} {gl : Bool} {ps : List Pc} {q : Nat × Nat} (hp : pcOne f i to ≠ none) (h : (pcs f to (m + 1) i gl ps).2 = some q) : i < q.2 ∨ (i = q.2 ∧ 4 ≤ q.1) := by
  rw [pcs] at h
  by_cases h1 : to ≤ i
  · rw [if_pos h1] at h
    cases h
  · rw [if_neg h1] at h
    cases hq : pcOne f i to with
    | none => exact absurd hq hp
    | some p =>
      rw [hq] at h
      have hl := pc_le (show i < to by omega) hE hq
      obtain ⟨p1, p2, p3, p4, p5, p6⟩ := p
      dsimp only at h hl
      by_cases h2 : ps.length = 120
      · rw [if_pos h2] at h
        cases h
        exact Or.inr ⟨rfl, Nat.le_refl _⟩
      · rw [if_neg h2] at h
        have := pcs_f f hE _ _ _ _ q h
        have k := skp_ge (f := f) (show p6 ≤ to by omega)
        omega
/-- pieces into the last block, at the end of a line -/
theorem g74_o (ht : to ≤ bs.length) (hE : tx bs to = 10 ∨ 256 ≤ tx bs to) {i : Nat} (hi : i ≤ to) {C0 : xC} (R0 : rS C0 d bs) (N : nS C0) (E : rdE d C0 C) (T : cRd C d r) (hF : fS C none) (hL : 0 < r.1.length) (h25 : r.1.length ≤ 25) (h120 : r.2.length ≤ 120) (h3 : cR C 5 3 = some (d + 4 + (r.1.length - 1))) : ∃ C', g74 5 (nI i) (nI to) C = some C' ∧ clO C0 C' d (rdPcs (tx bs) to i r) := by
  obtain ⟨W, w1, w2, w3, w4, w5⟩ := g74_s ht hE hi (R0.kp E) T hF hL h25 h120 h3
  refine ⟨W, w1, (E.tr w4).w, N.kp R0.2.2.2 (E.tr w4), ?_⟩
  rw [n_cmb] at w2
  cases ho : (rdPcs (tx bs) to i r).2 with
  | some q =>
    rw [ho] at w2
    exact w2
  | none =>
    rw [ho] at w2
    refine ⟨w2, w3 ho, ?_⟩
    rw [w5, h3, rdPcs_eq]
    dsimp only
    rw [upR_len hL]
/-- text -/
theorem g68_s (ht : to ≤ bs.length) (hE : tx bs to = 10 ∨ 256 ≤ tx bs to) (R : rS C d bs) (T : cRd C d r) (hF : fS C none) (N : nS C) (h24 : r.1.length ≤ 24) (h120 : r.2.length ≤ 120) (hB : ∀ b ∈ r.1, bSo b ≤ 7 ∧ bDe b ≤ 2) (h3 : cR C 5 3 = opO d r) {gap : Bool} (h4 : cI C 5 4 = bZ gap) (hg : r.1.length = 0 → gap = true) {mb : Bool} {a : Nat} (h5 : cR C d 5 = some a) (h12 : g12 a C = some (bZ (!mb), C)) {fi : Nat} (hfi : fi < to) (h32 : tx bs fi ≠ 32) : ∃ C', g68 5 (nI fi) (nI to) C = some C' ∧ clO C C' d (rdText (tx bs) bs.length mb fi to gap r) := by
  obtain ⟨⟨a1, a2⟩, b, t, hd⟩ := id R
  have t5 := t.2.2.2.2.1
  have bad : ∃ C', ((g62 5 (nI fi) 2 C).bind fun C_7 => some C_7) = some C' ∧ clO C C' d (r, some (2, fi)) := by
    obtain ⟨U, u1, u2, u3, u4, u5⟩ := g62_s hF (c := 2) (p := fi) (by decide) (by omega)
    rw [show (2 : Int32) = nI 2 from rfl, u1]
    exact ⟨U, rfl, clO_f (u5 d).w (N.kp hd (u5 d)) u2⟩
  unfold g68 rdText
  cases gap with
  | false =>
    have hL : 0 < r.1.length := Nat.pos_of_ne_zero fun h9 => by have := hg h9; cases this
    have hx := hB _ (lastB_mem hL)
    have h33 : cR C 5 3 = some (d + 4 + (r.1.length - 1)) := by rw [h3]; exact if_neg (by omega)
    rw [if_pos (show cI C 5 4 = 0 by rw [h4]; rfl), h33, if_neg (by simp), if_neg (show ¬ false = true by decide)]
    simp only [bS]
    rw [g2_s (last_c T hL).2.1 (by omega)]
    simp only [bS, bZ_0]
    unfold gj68_35 gj68_36
    by_cases h : bSo (lastB r) = 5 ∨ bSo (lastB r) = 6
    · rw [decide_eq_true h, if_neg (show ¬ true = false by decide), if_pos h, if_neg (show ¬ (1 : Int32) = 0 by decide)]
      exact bad
    · rw [decide_eq_false h, if_pos (Eq.refl false), if_neg h, if_pos (Eq.refl (0 : Int32)), if_pos (show cI C 5 4 = 0 by rw [h4]; rfl)]
      unfold gj68_68 gj68_69 gj68_94 gj68_117 gj68_128
      rw [if_pos (Eq.refl (0 : Int32)), if_pos (show cI C 5 4 = 0 by rw [h4]; rfl), if_pos (Eq.refl (0 : Int32))]
      obtain ⟨W, w1, w2⟩ := g74_o ht hE (show fi ≤ to by omega) R N rdE.rfl' T hF hL (by omega) h120 h33
      rw [w1]
      exact ⟨W, rfl, w2⟩
  | true =>
    have n4 : ∀ D, rdE d C D → ¬ cI D 5 4 = 0 := fun D ED => by rw [ED.2.2.2.1, h4]; exact bZt
    rw [if_neg (n4 C rdE.rfl'), if_pos rfl, g65_s T hB h3]
    simp only [bS]
    unfold gj68_36
    simp only [bZ_0]
    cases hasTg r with
    | true =>
      rw [if_neg (show ¬ true = false by decide), if_pos (Eq.refl true)]
      exact bad
    | false =>
      rw [if_pos (Eq.refl false), if_neg (show ¬ false = true by decide), if_neg (n4 C rdE.rfl'), g69_s R ht hE h5 h12 hfi]
      simp only [bS, bZ_0]
      cases isInh (tx bs) bs.length mb fi to with
      | true =>
        rw [if_neg (show ¬ true = false by decide), if_pos (Eq.refl true)]
        have e94 : ∀ (D : xC) (G : Option (Nat × Nat)), rdE d C D → cRd D d r → fS D G → (G = none ∨ G = some (5, fi)) → ∃ C', gj68_94 5 (nI fi) (nI to) (bZ false) 1 D = some C' ∧ clO C C' d (if r.1.length = 24 then (r, some (4, fi)) else if G.isSome = true then (r, some (5, fi)) else (opn r 7 fi 0 0 0 false, none)) := fun D G ED TD FD hG => by
          unfold gj68_94 gj68_113 gj68_117 gj68_128
          rw [if_neg (n4 D ED), if_neg (show ¬ (1 : Int32) = 0 by decide)]
          obtain ⟨V, v1, v2, v3, v4, v5⟩ := g66_s (R.kp ED) TD FD h24 h120 7 (pl := fi) (by omega)
          rw [show (7 : Int32) = nI 7 from rfl, v1]
          simp only [bS]
          rw [if_neg (show ¬ (1 : Int32) = 0 by decide)]
          refine ⟨V, rfl, (ED.tr v5).w, N.kp hd (ED.tr v5), ?_⟩
          by_cases h : r.1.length = 24
          · rw [if_pos h] at v2 ⊢
            rcases hG with rfl | rfl
            · exact v2
            · rw [cmb_s (by decide)] at v2
              exact v2
          · rw [if_neg h] at v2 ⊢
            rcases hG with rfl | rfl
            · exact ⟨v2, v3, by rw [v4]; show _ = some (d + 4 + ((opn r 7 fi 0 0 0 false).1.length - 1)); rw [opn_len, Nat.add_sub_cancel]⟩
            · exact v2
        unfold gj68_69
        rw [if_neg (show ¬ (1 : Int32) = 0 by decide), a1]
        simp only [bS]
        rw [show (7 : Int32) = nI 7 from rfl, g9_s b T (by omega) hB (by decide)]
        simp only [bS]
        cases h7 : ix9 r.1 7 r.1.length 0 with
        | none =>
          rw [if_pos (show Option.map (fun k => d + 4 + k) none = none from rfl), if_neg (show ¬ (r.1.any fun b => bSo b == 7) = true by rw [ix9_a.mp h7]; decide)]
          obtain ⟨W, w1, w2⟩ := e94 C none rdE.rfl' T hF (Or.inl rfl)
          exact ⟨W, w1, w2⟩
        | some k =>
          obtain ⟨U, u1, u2, u3, u4, u5⟩ := g62_s hF (c := 5) (p := fi) (by decide) (by omega)
          rw [if_neg (by simp), show (5 : Int32) = nI 5 from rfl, u1]
          simp only [bS]
          obtain ⟨W, w1, w2⟩ := e94 U (some (5, fi)) (u5 d) (cRd_eq T (by omega) h120 hd (u3.mono fun a ha => ha.1)) u2 (Or.inr rfl)
          rw [if_pos (show (r.1.any fun b => bSo b == 7) = true from Bool.not_eq_false _ ▸ fun h9 => by rw [ix9_a.mpr h9] at h7; cases h7)]
          exact ⟨W, w1, w2⟩
      | false =>
        rw [if_pos (Eq.refl false), if_neg (show ¬ false = true by decide)]
        unfold gj68_68 gj68_69 gj68_94 gj68_113
        rw [if_pos (Eq.refl (0 : Int32)), if_neg (n4 C rdE.rfl'), if_pos (Eq.refl (0 : Int32))]
        obtain ⟨V, v1, v2, v3, v4, v5⟩ := g66_s R T hF h24 h120 0 (pl := fi) (by omega)
        rw [show g66 5 0 (nI fi) C = g66 5 (nI 0) (nI fi) C from rfl, v1]
        simp only [bS]
        unfold gj68_117 gj68_128
        rw [if_pos (Eq.refl (0 : Int32))]
        have k5 : cR V 5 3 = some (d + 4 + ((opn r 0 fi 0 0 0 false).1.length - 1)) := by rw [opn_len, Nat.add_sub_cancel]; exact v4
        have sk : skp (tx bs) fi to = fi := by
          unfold skp
          obtain ⟨k, hk⟩ : ∃ k, to - fi = k + 1 := ⟨to - fi - 1, by omega⟩
          rw [hk]
          exact sc_t (by simpa using h32)
        obtain ⟨W, w1, w2, w3, w4, w5⟩ := g74_s ht hE (show fi ≤ to by omega) (R.kp v5) v3 v2 (by rw [opn_len]; omega) (by rw [opn_len]; omega) h120 k5
        rw [w1]
        have E4 := v5.tr w4
        refine ⟨W, rfl, E4.w, N.kp hd E4, ?_⟩
        have e2 : (rdPcs (tx bs) to fi (opn r 0 fi 0 0 0 false)).2 = (pcs (tx bs) to 700 fi false r.2).2 := by
          rw [rdPcs_eq, sk]
          rfl
        rw [n_cmb] at w2
        by_cases c1 : pcOne (tx bs) fi to = none
        · rw [if_pos c1]
          have e3 : (rdPcs (tx bs) to fi (opn r 0 fi 0 0 0 false)).2 = some (2, fi) := by
            rw [e2, pcs, if_neg (by omega), c1]
          rw [e3] at w2
          by_cases h : r.1.length = 24
          · rw [if_pos h, cmb_s (by decide)] at w2
            exact w2
          · rw [if_neg h, n_cmb] at w2
            exact w2
        · rw [if_neg c1]
          by_cases h : r.1.length = 24
          · rw [if_pos h] at w2 ⊢
            rw [cmb_k (fun q hq => by rw [e2] at hq; exact pcs_f1 (tx bs) hE c1 hq)] at w2
            exact w2
          · rw [if_neg h] at w2 ⊢
            rw [n_cmb] at w2
            cases ho : (rdPcs (tx bs) to fi (opn r 0 fi 0 0 0 false)).2 with
            | some q =>
              rw [ho] at w2
              exact w2
            | none =>
              rw [ho] at w2
              refine ⟨w2, w3 ho, ?_⟩
              rw [w5, k5, rdPcs_eq]
              dsimp only
              rw [upR_len (by rw [opn_len]; omega)]
end PCTX
