section
theorem g19_ok {h : xH} {C : xC} {o0 : Option Nat} {a0 : Nat} {r : xC} (H : WH h C) (e0 : o0 = some a0) (ta0 : tR C o0 3) (hf : g19 a0 C = some r) : EX (fn19 o0 h) (fun z => z) (QC C r) := by
  subst e0
  have E := Ext.rfl' (C := C)
  unfold g19 at hf
  unfold fn19
  obtain ⟨C_1, eC_1, hf⟩ := x_bind hf
  obtain ⟨h_2, eh_2, H, E_⟩ := H.pI rfl ta0 (by decide) (by decide) rfl (xfit_int _) eC_1
  refine EX.bd eh_2 ?_
  replace ta0 := ta0.up E_
  replace E := E.tr E_
  obtain rfl := Option.some.inj hf
  exact ⟨_, rfl, H, E⟩
end
section
theorem gj22_32_ok {h : xH} {C : xC} {a0 : Nat} {o1 : Option Nat} {r : xC} (H : WH h C) (ta0 : tR C (some a0) 3) (to1 : tR C o1 0) (hf : gj22_32 a0 o1 C = some r) : EX (j22_32 (some a0) o1 h) (fun z => z) (QC C r) := by
  have E := Ext.rfl' (C := C)
  unfold gj22_32 at hf
  unfold j22_32
  obtain rfl := Option.some.inj hf
  exact ⟨_, rfl, H, E⟩
theorem g22_ok {h : xH} {C : xC} {o0 : Option Nat} {a0 : Nat} {o1 : Option Nat} {r : xC} (H : WH h C) (e0 : o0 = some a0) (ta0 : tR C o0 3) (to1 : tR C o1 0) (hf : g22 a0 o1 C = some r) : EX (fn22 o0 o1 h) (fun z => z) (QC C r) := by
  subst e0
  have E := Ext.rfl' (C := C)
  unfold g22 at hf
  unfold fn22
  refine EX.bd (H.gI rfl ta0 (by decide) (by decide) rfl) ?_
  refine EX.bd (H.gR rfl ta0 (by decide) (by decide) (by decide)) ?_
  have t_1 := H.tyR rfl ta0 (ci := 3) (k := 0) (by decide) (by decide) (by decide)
  obtain ⟨a_2, ea_2, hf⟩ := x_bind hf
  refine EX.bd (H.len ea_2 t_1 (by decide) (by decide)) ?_
  by_cases c_3 : (Int32.ofNat (cK C a_2).2) ≤ (cI C a0 1)
  · replace hf := x_pos c_3 hf
    refine EX.pos c_3 ?_
    exact EX.uC E (gj22_32_ok H ta0 to1 hf)
  · replace hf := x_neg c_3 hf
    refine EX.neg c_3 ?_
    refine EX.bd (H.gR rfl ta0 (by decide) (by decide) (by decide)) ?_
    refine EX.bd (H.gI rfl ta0 (by decide) (by decide) rfl) ?_
    obtain ⟨C_4, eC_4, hf⟩ := x_bind hf
    obtain ⟨h_5, eh_5, H, E_⟩ := H.sR ea_2 t_1 (tg := 15) (by decide) (by decide) to1 eC_4
    refine EX.bd eh_5 ?_
    replace t_1 := t_1.up E_
    replace to1 := to1.up E_
    replace ta0 := ta0.up E_
    replace E := E.tr E_
    refine EX.bd (H.gI rfl ta0 (by decide) (by decide) rfl) ?_
    obtain ⟨C_6, eC_6, hf⟩ := x_bind hf
    obtain ⟨h_7, eh_7, H, E_⟩ := H.pI rfl ta0 (by decide) (by decide) rfl (xfit_int _) eC_6
    refine EX.bd eh_7 ?_
    replace t_1 := t_1.up E_
    replace to1 := to1.up E_
    replace ta0 := ta0.up E_
    replace E := E.tr E_
    exact EX.uC E (gj22_32_ok H ta0 to1 hf)
end
section
theorem gj88_53_ok {k3 : Nat → Option Nat → Option Nat → Int32 → Int32 → Int32 → xC → Option (Option Nat × xC)} {f3 : Option Nat → Option Nat → Option Nat → Int32 → Int32 → Int32 → xH → Option (Option Nat × xH)} (hk3 : ∀ {h : xH} {C : xC} {a0 : Nat} {o1 : Option Nat} {o2 : Option Nat} {x3 : Int32} {x4 : Int32} {x5 : Int32} {r : (Option Nat × xC)}, WH h C → tR C (some a0) 8 → tR C o1 2 → tR C o2 9 → k3 a0 o1 o2 x3 x4 x5 C = some r → EX (f3 (some a0) o1 o2 x3 x4 x5 h) (fun z => (r.1, z)) (QR 2 C r)) {h : xH} {C : xC} {a0 : Nat} {o1 : Option Nat} {o2 : Option Nat} {x3 : Int32} {x4 : Int32} {x5 : Int32} {o6 : Option Nat} {r : (Option Nat × xC)} (H : WH h C) (ta0 : tR C (some a0) 8) (to1 : tR C o1 2) (to2 : tR C o2 9) (to6 : tR C o6 2) (hf : gj88_53 k3 a0 o1 o2 x3 x4 x5 o6 C = some r) : EX (j88_53 f3 (some a0) o1 o2 x3 x4 x5 o6 h) (fun z => (r.1, z)) (QR 2 C r) := by
  have E := Ext.rfl' (C := C)
  unfold gj88_53 at hf
  unfold j88_53
  exact EX.uR E (hk3 H ta0 to1 to2 hf)
theorem gl88_3_ok : ∀ (n : Nat) {h : xH} {C : xC} {a0 : Nat} {o1 : Option Nat} {o2 : Option Nat} {x3 : Int32} {x4 : Int32} {x5 : Int32} {r : (Option Nat × xC)} (H : WH h C) (ta0 : tR C (some a0) 8) (to1 : tR C o1 2) (to2 : tR C o2 9), gl88_3 n a0 o1 o2 x3 x4 x5 C = some r → EX (l88_3 n (some a0) o1 o2 x3 x4 x5 h) (fun z => (r.1, z)) (QR 2 C r) := by
  intro n
  induction n with
  | zero => intros; rename_i hf; cases hf
  | succ n ih =>
    intro h C a0 o1 o2 x3 x4 x5 r H ta0 to1 to2 hf
    have E := Ext.rfl' (C := C)
    replace hf : ((if (cI C a0 1) ≤ x5 then some (none, C) else (cR C a0 0).bind fun a_4 => (cLR C a_4 x5).bind fun o_3 => (if o_3 = none then gj88_53 (gl88_3 n) a0 o1 o2 x3 x4 x5 o_3 C else (o_3).bind fun a_7 => (if (cR C a_7 2) = o1 then (cR C a_7 1).bind fun a_13 => (g103 a_13 o2 x3 x4 C).bind fun r_12 => (if r_12.1 = 0 then gj88_53 (gl88_3 n) a0 o1 o2 x3 x4 x5 o_3 r_12.2 else some (o_3, r_12.2)) else gj88_53 (gl88_3 n) a0 o1 o2 x3 x4 x5 o_3 C)))) = some r := hf
    unfold l88_3
    refine EX.bd (H.gI rfl ta0 (by decide) (by decide) rfl) ?_
    by_cases c_1 : (cI C a0 1) ≤ x5
    · replace hf := x_pos c_1 hf
      refine EX.pos c_1 ?_
      obtain rfl := Option.some.inj hf
      exact ⟨_, rfl, H, E, tR_none⟩
    · replace hf := x_neg c_1 hf
      refine EX.neg c_1 ?_
      refine EX.bd (H.gR rfl ta0 (by decide) (by decide) (by decide)) ?_
      have t_2 := H.tyR rfl ta0 (ci := 8) (k := 0) (by decide) (by decide) (by decide)
      obtain ⟨a_4, ea_4, hf⟩ := x_bind hf
      obtain ⟨o_3, eo_3, hf⟩ := x_bind hf
      refine EX.bd (H.lR ea_4 t_2 (by decide) (by decide) eo_3) ?_
      have t_5 := H.tL ea_4 t_2 (ci := 16) (by decide) (by decide) eo_3
      by_cases c_6 : o_3 = none
      · replace hf := x_pos c_6 hf
        refine EX.pos c_6 ?_
        exact EX.uR E (gj88_53_ok (k3 := (gl88_3 n)) (f3 := (l88_3 n)) ih H ta0 to1 to2 t_5 hf)
      · replace hf := x_neg c_6 hf
        refine EX.neg c_6 ?_
        obtain ⟨a_7, ea_7, hf⟩ := x_bind hf
        refine EX.bd (H.gR ea_7 t_5 (by decide) (by decide) (by decide)) ?_
        have t_8 := H.tyR ea_7 t_5 (ci := 2) (k := 2) (by decide) (by decide) (by decide)
        by_cases c_9 : (cR C a_7 2) = o1
        · replace hf := x_pos c_9 hf
          refine EX.pos c_9 ?_
          refine EX.bd (H.gR ea_7 t_5 (by decide) (by decide) (by decide)) ?_
          have t_10 := H.tyR ea_7 t_5 (ci := 2) (k := 1) (by decide) (by decide) (by decide)
          obtain ⟨a_13, ea_13, hf⟩ := x_bind hf
          have Hc_ := H.cv ea_13 t_10 (by decide)
          obtain ⟨r_12, er_12, hf⟩ := x_bind hf
          obtain ⟨h_11, eh_11, H, E_⟩ := g103_ok H ea_13 t_10 to2 er_12
          refine EX.bd Hc_ ?_
          refine EX.bd eh_11 ?_
          dsimp only
          replace t_5 := t_5.up E_
          replace ta0 := ta0.up E_
          replace to2 := to2.up E_
          replace t_2 := t_2.up E_
          replace to1 := to1.up E_
          replace t_10 := t_10.up E_
          replace E := E.tr E_
          by_cases c_14 : r_12.1 = 0
          · replace hf := x_pos c_14 hf
            refine EX.pos c_14 ?_
            exact EX.uR E (gj88_53_ok (k3 := (gl88_3 n)) (f3 := (l88_3 n)) ih H ta0 to1 to2 t_5 hf)
          · replace hf := x_neg c_14 hf
            refine EX.neg c_14 ?_
            obtain rfl := Option.some.inj hf
            exact ⟨_, rfl, H, E, t_5⟩
        · replace hf := x_neg c_9 hf
          refine EX.neg c_9 ?_
          exact EX.uR E (gj88_53_ok (k3 := (gl88_3 n)) (f3 := (l88_3 n)) ih H ta0 to1 to2 t_5 hf)
theorem g88_ok {h : xH} {C : xC} {o0 : Option Nat} {a0 : Nat} {o1 : Option Nat} {o2 : Option Nat} {x3 : Int32} {x4 : Int32} {r : (Option Nat × xC)} (H : WH h C) (e0 : o0 = some a0) (ta0 : tR C o0 8) (to1 : tR C o1 2) (to2 : tR C o2 9) (hf : g88 a0 o1 o2 x3 x4 C = some r) : EX (fn88 o0 o1 o2 x3 x4 h) (fun z => (r.1, z)) (QR 2 C r) := by
  subst e0
  have E := Ext.rfl' (C := C)
  unfold g88 at hf
  unfold fn88
  exact EX.uR E (gl88_3_ok xFuel H ta0 to1 to2 hf)
end
section
theorem gj89_51_ok {h : xH} {C : xC} {a0 : Nat} {o1 : Option Nat} {o2 : Option Nat} {x3 : Int32} {x4 : Int32} {o5 : Option Nat} {x6 : Int32} {r : (Option Nat × xC)} (H : WH h C) (ta0 : tR C (some a0) 8) (to1 : tR C o1 2) (to2 : tR C o2 9) (to5 : tR C o5 2) (hf : gj89_51 a0 o1 o2 x3 x4 o5 x6 C = some r) : EX (j89_51 (some a0) o1 o2 x3 x4 o5 x6 h) (fun z => (r.1, z)) (QR 2 C r) := by
  have E := Ext.rfl' (C := C)
  unfold gj89_51 at hf
  unfold j89_51
  obtain rfl := Option.some.inj hf
  exact ⟨_, rfl, H, E, tR_none⟩
theorem gl89_6_ok : ∀ (n : Nat) {h : xH} {C : xC} {a0 : Nat} {o1 : Option Nat} {o2 : Option Nat} {x3 : Int32} {x4 : Int32} {o5 : Option Nat} {x6 : Int32} {r : (Option Nat × xC)} (H : WH h C) (ta0 : tR C (some a0) 8) (to1 : tR C o1 2) (to2 : tR C o2 9) (to5 : tR C o5 2), gl89_6 n a0 o1 o2 x3 x4 o5 x6 C = some r → EX (l89_6 n (some a0) o1 o2 x3 x4 o5 x6 h) (fun z => (r.1, z)) (QR 2 C r) := by
  intro n
  induction n with
  | zero => intros; rename_i hf; cases hf
  | succ n ih =>
    intro h C a0 o1 o2 x3 x4 o5 x6 r H ta0 to1 to2 to5 hf
    have E := Ext.rfl' (C := C)
    replace hf : ((if 40 ≤ x6 then gj89_51 a0 o1 o2 x3 x4 o5 x6 C else (if o5 = none then gj89_51 a0 o1 o2 x3 x4 o5 x6 C else (g88 a0 o5 o2 x3 x4 C).bind fun r_4 => (if r_4.1 = none then (o5).bind fun a_7 => gl89_6 n a0 o1 o2 x3 x4 (cR r_4.2 a_7 3) (x6 + 1) r_4.2 else some (r_4.1, r_4.2))))) = some r := hf
    unfold l89_6
    by_cases c_1 : 40 ≤ x6
    · replace hf := x_pos c_1 hf
      refine EX.pos c_1 ?_
      exact EX.uR E (gj89_51_ok H ta0 to1 to2 to5 hf)
    · replace hf := x_neg c_1 hf
      refine EX.neg c_1 ?_
      by_cases c_2 : o5 = none
      · replace hf := x_pos c_2 hf
        refine EX.pos c_2 ?_
        exact EX.uR E (gj89_51_ok H ta0 to1 to2 to5 hf)
      · replace hf := x_neg c_2 hf
        refine EX.neg c_2 ?_
        have Hc_ := H.cv rfl ta0 (by decide)
        obtain ⟨r_4, er_4, hf⟩ := x_bind hf
        obtain ⟨h_3, eh_3, H, E_, t_5⟩ := g88_ok H rfl ta0 to5 to2 er_4
        refine EX.bd Hc_ ?_
        refine EX.bd eh_3 ?_
        dsimp only
        replace to1 := to1.up E_
        replace to5 := to5.up E_
        replace ta0 := ta0.up E_
        replace to2 := to2.up E_
        replace E := E.tr E_
        by_cases c_6 : r_4.1 = none
        · replace hf := x_pos c_6 hf
          refine EX.pos c_6 ?_
          obtain ⟨a_7, ea_7, hf⟩ := x_bind hf
          refine EX.bd (H.gR ea_7 to5 (by decide) (by decide) (by decide)) ?_
          have t_8 := H.tyR ea_7 to5 (ci := 2) (k := 3) (by decide) (by decide) (by decide)
          exact EX.uR E (ih H ta0 to1 to2 t_8 hf)
        · replace hf := x_neg c_6 hf
          refine EX.neg c_6 ?_
          obtain rfl := Option.some.inj hf
          exact ⟨_, rfl, H, E, t_5⟩
theorem g89_ok {h : xH} {C : xC} {o0 : Option Nat} {a0 : Nat} {o1 : Option Nat} {o2 : Option Nat} {x3 : Int32} {x4 : Int32} {r : (Option Nat × xC)} (H : WH h C) (e0 : o0 = some a0) (ta0 : tR C o0 8) (to1 : tR C o1 2) (to2 : tR C o2 9) (hf : g89 a0 o1 o2 x3 x4 C = some r) : EX (fn89 o0 o1 o2 x3 x4 h) (fun z => (r.1, z)) (QR 2 C r) := by
  subst e0
  have E := Ext.rfl' (C := C)
  unfold g89 at hf
  unfold fn89
  exact EX.uR E (gl89_6_ok xFuel H ta0 to1 to2 to1 hf)
end
section
theorem g90_ok {h : xH} {C : xC} {o0 : Option Nat} {a0 : Nat} {o1 : Option Nat} {r : (Option Nat × xC)} (H : WH h C) (e0 : o0 = some a0) (ta0 : tR C o0 8) (to1 : tR C o1 2) (hf : g90 a0 o1 C = some r) : EX (fn90 o0 o1 h) (fun z => (r.1, z)) (QR 2 C r) := by
  subst e0
  have E := Ext.rfl' (C := C)
  unfold g90 at hf
  unfold fn90
  obtain ⟨a_1, ea_1, hf⟩ := x_bind hf
  refine EX.bd (H.gR ea_1 to1 (by decide) (by decide) (by decide)) ?_
  have t_2 := H.tyR ea_1 to1 (ci := 2) (k := 2) (by decide) (by decide) (by decide)
  by_cases c_3 : (cR C a_1 2) = none
  · replace hf := x_pos c_3 hf
    refine EX.pos c_3 ?_
    obtain rfl := Option.some.inj hf
    exact ⟨_, rfl, H, E, tR_none⟩
  · replace hf := x_neg c_3 hf
    refine EX.neg c_3 ?_
    refine EX.bd (H.gR ea_1 to1 (by decide) (by decide) (by decide)) ?_
    obtain ⟨a_4, ea_4, hf⟩ := x_bind hf
    refine EX.bd (H.gR ea_4 t_2 (by decide) (by decide) (by decide)) ?_
    have t_5 := H.tyR ea_4 t_2 (ci := 2) (k := 3) (by decide) (by decide) (by decide)
    refine EX.bd (H.gR ea_1 to1 (by decide) (by decide) (by decide)) ?_
    have t_6 := H.tyR ea_1 to1 (ci := 2) (k := 1) (by decide) (by decide) (by decide)
    refine EX.bd (H.gR ea_1 to1 (by decide) (by decide) (by decide)) ?_
    obtain ⟨a_7, ea_7, hf⟩ := x_bind hf
    refine EX.bd (H.gI ea_7 t_6 (by decide) (by decide) rfl) ?_
    have Hc_ := H.cv rfl ta0 (by decide)
    obtain ⟨r_9, er_9, hf⟩ := x_bind hf
    obtain ⟨h_8, eh_8, H, E_, t_10⟩ := g89_ok H rfl ta0 t_5 t_6 er_9
    refine EX.bd Hc_ ?_
    refine EX.bd eh_8 ?_
    dsimp only
    replace t_6 := t_6.up E_
    replace to1 := to1.up E_
    replace t_2 := t_2.up E_
    replace ta0 := ta0.up E_
    replace E := E.tr E_
    obtain rfl := Option.some.inj hf
    exact ⟨_, rfl, H, E, t_10⟩
end
section
theorem gj91_35_ok {h : xH} {C : xC} {a0 : Nat} {o1 : Option Nat} {o2 : Option Nat} {x3 : Int32} {r : (Option Nat × xC)} (H : WH h C) (ta0 : tR C (some a0) 8) (to1 : tR C o1 2) (to2 : tR C o2 2) (hf : gj91_35 a0 o1 o2 x3 C = some r) : EX (j91_35 (some a0) o1 o2 x3 h) (fun z => (r.1, z)) (QR 2 C r) := by
  have E := Ext.rfl' (C := C)
  unfold gj91_35 at hf
  unfold j91_35
  obtain rfl := Option.some.inj hf
  exact ⟨_, rfl, H, E, tR_none⟩
theorem gl91_4_ok : ∀ (n : Nat) {h : xH} {C : xC} {a0 : Nat} {o1 : Option Nat} {o2 : Option Nat} {x3 : Int32} {r : (Option Nat × xC)} (H : WH h C) (ta0 : tR C (some a0) 8) (to1 : tR C o1 2) (to2 : tR C o2 2), gl91_4 n a0 o1 o2 x3 C = some r → EX (l91_4 n (some a0) o1 o2 x3 h) (fun z => (r.1, z)) (QR 2 C r) := by
  intro n
  induction n with
  | zero => intros; rename_i hf; cases hf
  | succ n ih =>
    intro h C a0 o1 o2 x3 r H ta0 to1 to2 hf
    have E := Ext.rfl' (C := C)
    replace hf : ((if 40 ≤ x3 then gj91_35 a0 o1 o2 x3 C else (if o2 = none then gj91_35 a0 o1 o2 x3 C else (o2).bind fun a_3 => (if (cI C a_3 8) = 0 then (g90 a0 o2 C).bind fun r_6 => gl91_4 n a0 o1 r_6.1 (x3 + 1) r_6.2 else some (o2, C))))) = some r := hf
    unfold l91_4
    by_cases c_1 : 40 ≤ x3
    · replace hf := x_pos c_1 hf
      refine EX.pos c_1 ?_
      exact EX.uR E (gj91_35_ok H ta0 to1 to2 hf)
    · replace hf := x_neg c_1 hf
      refine EX.neg c_1 ?_
      by_cases c_2 : o2 = none
      · replace hf := x_pos c_2 hf
        refine EX.pos c_2 ?_
        exact EX.uR E (gj91_35_ok H ta0 to1 to2 hf)
      · replace hf := x_neg c_2 hf
        refine EX.neg c_2 ?_
        obtain ⟨a_3, ea_3, hf⟩ := x_bind hf
        refine EX.bd (H.gI ea_3 to2 (by decide) (by decide) rfl) ?_
        by_cases c_4 : (cI C a_3 8) = 0
        · replace hf := x_pos c_4 hf
          refine EX.pos c_4 ?_
          have Hc_ := H.cv rfl ta0 (by decide)
          obtain ⟨r_6, er_6, hf⟩ := x_bind hf
          obtain ⟨h_5, eh_5, H, E_, t_7⟩ := g90_ok H rfl ta0 to2 er_6
          refine EX.bd Hc_ ?_
          refine EX.bd eh_5 ?_
          dsimp only
          replace to1 := to1.up E_
          replace ta0 := ta0.up E_
          replace to2 := to2.up E_
          replace E := E.tr E_
          exact EX.uR E (ih H ta0 to1 t_7 hf)
        · replace hf := x_neg c_4 hf
          refine EX.neg c_4 ?_
          obtain rfl := Option.some.inj hf
          exact ⟨_, rfl, H, E, to2⟩
theorem g91_ok {h : xH} {C : xC} {o0 : Option Nat} {a0 : Nat} {o1 : Option Nat} {r : (Option Nat × xC)} (H : WH h C) (e0 : o0 = some a0) (ta0 : tR C o0 8) (to1 : tR C o1 2) (hf : g91 a0 o1 C = some r) : EX (fn91 o0 o1 h) (fun z => (r.1, z)) (QR 2 C r) := by
  subst e0
  have E := Ext.rfl' (C := C)
  unfold g91 at hf
  unfold fn91
  exact EX.uR E (gl91_4_ok xFuel H ta0 to1 to1 hf)
end
section
theorem gj92_19_ok {h : xH} {C : xC} {a0 : Nat} {o1 : Option Nat} {o2 : Option Nat} {s0 : Option Nat} {r : (Option Nat × xC)} (H : WH h C) (ta0 : tR C (some a0) 8) (to1 : tR C o1 2) (to2 : tR C o2 2) (ts0 : tR C s0 2) (hf : gj92_19 a0 o1 o2 s0 C = some r) : EX (j92_19 (some a0) o1 o2 s0 h) (fun z => (r.1, z)) (QR 2 C r) := by
  have E := Ext.rfl' (C := C)
  unfold gj92_19 at hf
  unfold j92_19
  obtain rfl := Option.some.inj hf
  exact ⟨_, rfl, H, E, ts0⟩
theorem g92_ok {h : xH} {C : xC} {o0 : Option Nat} {a0 : Nat} {o1 : Option Nat} {r : (Option Nat × xC)} (H : WH h C) (e0 : o0 = some a0) (ta0 : tR C o0 8) (to1 : tR C o1 2) (hf : g92 a0 o1 C = some r) : EX (fn92 o0 o1 h) (fun z => (r.1, z)) (QR 2 C r) := by
  subst e0
  have E := Ext.rfl' (C := C)
  unfold g92 at hf
  unfold fn92
  have Hc_ := H.cv rfl ta0 (by decide)
  obtain ⟨r_2, er_2, hf⟩ := x_bind hf
  obtain ⟨h_1, eh_1, H, E_, t_3⟩ := g90_ok H rfl ta0 to1 er_2
  refine EX.bd Hc_ ?_
  refine EX.bd eh_1 ?_
  dsimp only
  replace to1 := to1.up E_
  replace ta0 := ta0.up E_
  replace E := E.tr E_
  by_cases c_4 : r_2.1 = none
  · replace hf := x_pos c_4 hf
    refine EX.pos c_4 ?_
    exact EX.uR E (gj92_19_ok H ta0 to1 t_3 tR_none hf)
  · replace hf := x_neg c_4 hf
    refine EX.neg c_4 ?_
    have Hc_ := H.cv rfl ta0 (by decide)
    obtain ⟨r_6, er_6, hf⟩ := x_bind hf
    obtain ⟨h_5, eh_5, H, E_, t_7⟩ := g91_ok H rfl ta0 t_3 er_6
    refine EX.bd Hc_ ?_
    refine EX.bd eh_5 ?_
    dsimp only
    replace t_3 := t_3.up E_
    replace to1 := to1.up E_
    replace ta0 := ta0.up E_
    replace E := E.tr E_
    exact EX.uR E (gj92_19_ok H ta0 to1 t_3 t_7 hf)
end
section
theorem gj138_16_ok {h : xH} {C : xC} {x0 : Int32} {s0 : Int32} {r : (Int32 × xC)} (H : WH h C) (hf : gj138_16 x0 s0 C = some r) : EX (j138_16 x0 s0 h) (fun z => (r.1, z)) (QC C r.2) := by
  have E := Ext.rfl' (C := C)
  unfold gj138_16 at hf
  unfold j138_16
  by_cases c_1 : s0 &&& 1 = s0
  · replace hf := x_pos c_1 hf
    refine EX.pos c_1 ?_
    obtain rfl := Option.some.inj hf
    exact ⟨_, rfl, H, E⟩
  · replace hf := x_neg c_1 hf
    cases hf
theorem gj138_15_ok {h : xH} {C : xC} {x0 : Int32} {r : (Int32 × xC)} (H : WH h C) (hf : gj138_15 x0 C = some r) : EX (j138_15 x0 h) (fun z => (r.1, z)) (QC C r.2) := by
  have E := Ext.rfl' (C := C)
  unfold gj138_15 at hf
  unfold j138_15
  exact EX.uC E (gj138_16_ok H hf)
theorem g138_ok {h : xH} {C : xC} {x0 : Int32} {r : (Int32 × xC)} (H : WH h C) (hf : g138 x0 C = some r) : EX (fn138 x0 h) (fun z => (r.1, z)) (QC C r.2) := by
  have E := Ext.rfl' (C := C)
  unfold g138 at hf
  unfold fn138
  by_cases c_1 : x0 < 2
  · replace hf := x_pos c_1 hf
    refine EX.pos c_1 ?_
    exact EX.uC E (gj138_15_ok H hf)
  · replace hf := x_neg c_1 hf
    refine EX.neg c_1 ?_
    by_cases c_2 : 6 < x0
    · replace hf := x_pos c_2 hf
      refine EX.pos c_2 ?_
      exact EX.uC E (gj138_15_ok H hf)
    · replace hf := x_neg c_2 hf
      refine EX.neg c_2 ?_
      exact EX.uC E (gj138_16_ok H hf)
end
section
theorem gj20_99_ok {rc : Nat → Option Nat → Option Nat → Int32 → xC → Option xC} {rcf : Option Nat → Option Nat → Option Nat → Int32 → xH → Option xH} (hrc : ∀ {h : xH} {C : xC} {o0 : Option Nat} {a0 : Nat} {o1 : Option Nat} {o2 : Option Nat} {x3 : Int32} {r : xC}, WH h C → o0 = some a0 → tR C o0 3 → tR C o1 8 → tR C o2 2 → rc a0 o1 o2 x3 C = some r → EX (rcf o0 o1 o2 x3 h) (fun z => z) (QC C r)) {k27 : Nat → Option Nat → Option Nat → Int32 → Option Nat → Int32 → xC → Option xC} {f27 : Option Nat → Option Nat → Option Nat → Int32 → Option Nat → Int32 → xH → Option xH} (hk27 : ∀ {h : xH} {C : xC} {a0 : Nat} {o1 : Option Nat} {o2 : Option Nat} {x3 : Int32} {o4 : Option Nat} {x5 : Int32} {r : xC}, WH h C → tR C (some a0) 3 → tR C o1 8 → tR C o2 2 → tR C o4 1 → k27 a0 o1 o2 x3 o4 x5 C = some r → EX (f27 (some a0) o1 o2 x3 o4 x5 h) (fun z => z) (QC C r)) {h : xH} {C : xC} {a0 : Nat} {o1 : Option Nat} {o2 : Option Nat} {x3 : Int32} {o4 : Option Nat} {x5 : Int32} {o6 : Option Nat} {r : xC} (H : WH h C) (ta0 : tR C (some a0) 3) (to1 : tR C o1 8) (to2 : tR C o2 2) (to4 : tR C o4 1) (to6 : tR C o6 0) (hf : gj20_99 rc k27 a0 o1 o2 x3 o4 x5 o6 C = some r) : EX (j20_99 rcf f27 (some a0) o1 o2 x3 o4 x5 o6 h) (fun z => z) (QC C r) := by
  have E := Ext.rfl' (C := C)
  unfold gj20_99 at hf
  unfold j20_99
  exact EX.uC E (hk27 H ta0 to1 to2 to4 hf)
theorem gj20_77_ok {rc : Nat → Option Nat → Option Nat → Int32 → xC → Option xC} {rcf : Option Nat → Option Nat → Option Nat → Int32 → xH → Option xH} (hrc : ∀ {h : xH} {C : xC} {o0 : Option Nat} {a0 : Nat} {o1 : Option Nat} {o2 : Option Nat} {x3 : Int32} {r : xC}, WH h C → o0 = some a0 → tR C o0 3 → tR C o1 8 → tR C o2 2 → rc a0 o1 o2 x3 C = some r → EX (rcf o0 o1 o2 x3 h) (fun z => z) (QC C r)) {k27 : Nat → Option Nat → Option Nat → Int32 → Option Nat → Int32 → xC → Option xC} {f27 : Option Nat → Option Nat → Option Nat → Int32 → Option Nat → Int32 → xH → Option xH} (hk27 : ∀ {h : xH} {C : xC} {a0 : Nat} {o1 : Option Nat} {o2 : Option Nat} {x3 : Int32} {o4 : Option Nat} {x5 : Int32} {r : xC}, WH h C → tR C (some a0) 3 → tR C o1 8 → tR C o2 2 → tR C o4 1 → k27 a0 o1 o2 x3 o4 x5 C = some r → EX (f27 (some a0) o1 o2 x3 o4 x5 h) (fun z => z) (QC C r)) {h : xH} {C : xC} {a0 : Nat} {o1 : Option Nat} {o2 : Option Nat} {x3 : Int32} {o4 : Option Nat} {x5 : Int32} {o6 : Option Nat} {r : xC} (H : WH h C) (ta0 : tR C (some a0) 3) (to1 : tR C o1 8) (to2 : tR C o2 2) (to4 : tR C o4 1) (to6 : tR C o6 0) (hf : gj20_77 rc k27 a0 o1 o2 x3 o4 x5 o6 C = some r) : EX (j20_77 rcf f27 (some a0) o1 o2 x3 o4 x5 o6 h) (fun z => z) (QC C r) := by
  have E := Ext.rfl' (C := C)
  unfold gj20_77 at hf
  unfold j20_77
  by_cases c_1 : o6 = none
  · replace hf := x_pos c_1 hf
    refine EX.pos c_1 ?_
    exact EX.uC E (gj20_99_ok (rc := rc) (rcf := rcf) hrc (k27 := k27) (f27 := f27) hk27 H ta0 to1 to2 to4 to6 hf)
  · replace hf := x_neg c_1 hf
    refine EX.neg c_1 ?_
    obtain ⟨a_2, ea_2, hf⟩ := x_bind hf
    refine EX.bd (H.gI ea_2 to6 (by decide) (by decide) rfl) ?_
    obtain ⟨r_4, er_4, hf⟩ := x_bind hf
    obtain ⟨h_3, eh_3, H, E_⟩ := g138_ok H er_4
    refine EX.bd eh_3 ?_
    dsimp only
    replace to4 := to4.up E_
    replace ta0 := ta0.up E_
    replace to2 := to2.up E_
    replace to1 := to1.up E_
    replace to6 := to6.up E_
    replace E := E.tr E_
    by_cases c_5 : r_4.1 = 0
    · replace hf := x_pos c_5 hf
      refine EX.pos c_5 ?_
      have Hc_ := H.cv rfl ta0 (by decide)
      obtain ⟨C_7, eC_7, hf⟩ := x_bind hf
      obtain ⟨h_6, eh_6, H, E_⟩ := g22_ok H rfl ta0 to6 eC_7
      refine EX.bd Hc_ ?_
      refine EX.bd eh_6 ?_
      replace to4 := to4.up E_
      replace ta0 := ta0.up E_
      replace to2 := to2.up E_
      replace to1 := to1.up E_
      replace to6 := to6.up E_
      replace E := E.tr E_
      exact EX.uC E (gj20_99_ok (rc := rc) (rcf := rcf) hrc (k27 := k27) (f27 := f27) hk27 H ta0 to1 to2 to4 to6 hf)
    · replace hf := x_neg c_5 hf
      refine EX.neg c_5 ?_
      exact EX.uC E (gj20_99_ok (rc := rc) (rcf := rcf) hrc (k27 := k27) (f27 := f27) hk27 H ta0 to1 to2 to4 to6 hf)
theorem gl20_27_ok {rc : Nat → Option Nat → Option Nat → Int32 → xC → Option xC} {rcf : Option Nat → Option Nat → Option Nat → Int32 → xH → Option xH} (hrc : ∀ {h : xH} {C : xC} {o0 : Option Nat} {a0 : Nat} {o1 : Option Nat} {o2 : Option Nat} {x3 : Int32} {r : xC}, WH h C → o0 = some a0 → tR C o0 3 → tR C o1 8 → tR C o2 2 → rc a0 o1 o2 x3 C = some r → EX (rcf o0 o1 o2 x3 h) (fun z => z) (QC C r)) : ∀ (n : Nat) {h : xH} {C : xC} {a0 : Nat} {o1 : Option Nat} {o2 : Option Nat} {x3 : Int32} {o4 : Option Nat} {x5 : Int32} {r : xC} (H : WH h C) (ta0 : tR C (some a0) 3) (to1 : tR C o1 8) (to2 : tR C o2 2) (to4 : tR C o4 1), gl20_27 rc n a0 o1 o2 x3 o4 x5 C = some r → EX (l20_27 rcf n (some a0) o1 o2 x3 o4 x5 h) (fun z => z) (QC C r) := by
  intro n
  induction n with
  | zero => intros; rename_i hf; cases hf
  | succ n ih =>
    intro h C a0 o1 o2 x3 o4 x5 r H ta0 to1 to2 to4 hf
    have E := Ext.rfl' (C := C)
    replace hf : ((o4).bind fun a_1 => (if (cI C a_1 3) ≤ x5 then some C else (g5 a_1 x5 C).bind fun r_4 => (if r_4.1 = none then gj20_77 rc (gl20_27 rc n) a0 o1 o2 x3 o4 x5 r_4.1 r_4.2 else (r_4.1).bind fun a_7 => (if (cI r_4.2 a_7 1) = 7 then (o1).bind fun a_11 => (g92 a_11 o2 r_4.2).bind fun r_10 => (rc a0 o1 r_10.1 (x3 + 1) r_10.2).bind fun C_14 => gj20_99 rc (gl20_27 rc n) a0 o1 o2 x3 o4 x5 r_4.1 C_14 else gj20_77 rc (gl20_27 rc n) a0 o1 o2 x3 o4 x5 r_4.1 r_4.2)))) = some r := hf
    unfold l20_27
    obtain ⟨a_1, ea_1, hf⟩ := x_bind hf
    refine EX.bd (H.gI ea_1 to4 (by decide) (by decide) rfl) ?_
    by_cases c_2 : (cI C a_1 3) ≤ x5
    · replace hf := x_pos c_2 hf
      refine EX.pos c_2 ?_
      obtain rfl := Option.some.inj hf
      exact ⟨_, rfl, H, E⟩
    · replace hf := x_neg c_2 hf
      refine EX.neg c_2 ?_
      have Hc_ := H.cv ea_1 to4 (by decide)
      obtain ⟨r_4, er_4, hf⟩ := x_bind hf
      obtain ⟨h_3, eh_3, H, E_, t_5⟩ := g5_ok H ea_1 to4 er_4
      refine EX.bd Hc_ ?_
      refine EX.bd eh_3 ?_
      dsimp only
      replace to1 := to1.up E_
      replace ta0 := ta0.up E_
      replace to4 := to4.up E_
      replace to2 := to2.up E_
      replace E := E.tr E_
      by_cases c_6 : r_4.1 = none
      · replace hf := x_pos c_6 hf
        refine EX.pos c_6 ?_
        exact EX.uC E (gj20_77_ok (rc := rc) (rcf := rcf) hrc (k27 := (gl20_27 rc n)) (f27 := (l20_27 rcf n)) ih H ta0 to1 to2 to4 t_5 hf)
      · replace hf := x_neg c_6 hf
        refine EX.neg c_6 ?_
        obtain ⟨a_7, ea_7, hf⟩ := x_bind hf
        refine EX.bd (H.gI ea_7 t_5 (by decide) (by decide) rfl) ?_
        by_cases c_8 : (cI r_4.2 a_7 1) = 7
        · replace hf := x_pos c_8 hf
          refine EX.pos c_8 ?_
          obtain ⟨a_11, ea_11, hf⟩ := x_bind hf
          have Hc_ := H.cv ea_11 to1 (by decide)
          obtain ⟨r_10, er_10, hf⟩ := x_bind hf
          obtain ⟨h_9, eh_9, H, E_, t_12⟩ := g92_ok H ea_11 to1 to2 er_10
          refine EX.bd Hc_ ?_
          refine EX.bd eh_9 ?_
          dsimp only
          replace t_5 := t_5.up E_
          replace to4 := to4.up E_
          replace ta0 := ta0.up E_
          replace to2 := to2.up E_
          replace to1 := to1.up E_
          replace E := E.tr E_
          have Hc_ := H.cv rfl ta0 (by decide)
          obtain ⟨C_14, eC_14, hf⟩ := x_bind hf
          obtain ⟨h_13, eh_13, H, E_⟩ := hrc H rfl ta0 to1 t_12 eC_14
          refine EX.bd Hc_ ?_
          refine EX.bd eh_13 ?_
          replace t_5 := t_5.up E_
          replace to4 := to4.up E_
          replace ta0 := ta0.up E_
          replace to2 := to2.up E_
          replace to1 := to1.up E_
          replace E := E.tr E_
          exact EX.uC E (gj20_99_ok (rc := rc) (rcf := rcf) hrc (k27 := (gl20_27 rc n)) (f27 := (l20_27 rcf n)) ih H ta0 to1 to2 to4 t_5 hf)
        · replace hf := x_neg c_8 hf
          refine EX.neg c_8 ?_
          exact EX.uC E (gj20_77_ok (rc := rc) (rcf := rcf) hrc (k27 := (gl20_27 rc n)) (f27 := (l20_27 rcf n)) ih H ta0 to1 to2 to4 t_5 hf)
theorem gj20_17_ok {rc : Nat → Option Nat → Option Nat → Int32 → xC → Option xC} {rcf : Option Nat → Option Nat → Option Nat → Int32 → xH → Option xH} (hrc : ∀ {h : xH} {C : xC} {o0 : Option Nat} {a0 : Nat} {o1 : Option Nat} {o2 : Option Nat} {x3 : Int32} {r : xC}, WH h C → o0 = some a0 → tR C o0 3 → tR C o1 8 → tR C o2 2 → rc a0 o1 o2 x3 C = some r → EX (rcf o0 o1 o2 x3 h) (fun z => z) (QC C r)) {h : xH} {C : xC} {a0 : Nat} {o1 : Option Nat} {o2 : Option Nat} {x3 : Int32} {r : xC} (H : WH h C) (ta0 : tR C (some a0) 3) (to1 : tR C o1 8) (to2 : tR C o2 2) (hf : gj20_17 rc a0 o1 o2 x3 C = some r) : EX (j20_17 rcf (some a0) o1 o2 x3 h) (fun z => z) (QC C r) := by
  have E := Ext.rfl' (C := C)
  unfold gj20_17 at hf
  unfold j20_17
  obtain rfl := Option.some.inj hf
  exact ⟨_, rfl, H, E⟩
theorem gr20_ok : ∀ (n : Nat) {h : xH} {C : xC} {o0 : Option Nat} {a0 : Nat} {o1 : Option Nat} {o2 : Option Nat} {x3 : Int32} {r : xC} (H : WH h C) (e0 : o0 = some a0) (ta0 : tR C o0 3) (to1 : tR C o1 8) (to2 : tR C o2 2), gr20 n a0 o1 o2 x3 C = some r → EX (fr20 n o0 o1 o2 x3 h) (fun z => z) (QC C r) := by
  intro n
  induction n with
  | zero => intros; rename_i hf; cases hf
  | succ n ih =>
    intro h C o0 a0 o1 o2 x3 r H e0 ta0 to1 to2 hf
    subst e0
    have E := Ext.rfl' (C := C)
    have hrc := @ih
    replace hf : (let rc := gr20 n; (if o2 = none then gj20_17 rc a0 o1 o2 x3 C else (o2).bind fun a_2 => (if (cR C a_2 7) = none then gj20_17 rc a0 o1 o2 x3 C else (if x3 ≤ 40 then gl20_27 rc xFuel a0 o1 o2 x3 (cR C a_2 7) 0 C else gj20_17 rc a0 o1 o2 x3 C)))) = some r := hf
    unfold fr20
    revert hf hrc
    generalize gr20 n = rc
    generalize fr20 n = rcf
    intro hrc hf
    dsimp only at hf ⊢
    by_cases c_1 : o2 = none
    · replace hf := x_pos c_1 hf
      refine EX.pos c_1 ?_
      exact EX.uC E (gj20_17_ok (rc := rc) (rcf := rcf) hrc H ta0 to1 to2 hf)
    · replace hf := x_neg c_1 hf
      refine EX.neg c_1 ?_
      obtain ⟨a_2, ea_2, hf⟩ := x_bind hf
      refine EX.bd (H.gR ea_2 to2 (by decide) (by decide) (by decide)) ?_
      have t_3 := H.tyR ea_2 to2 (ci := 2) (k := 7) (by decide) (by decide) (by decide)
      by_cases c_4 : (cR C a_2 7) = none
      · replace hf := x_pos c_4 hf
        refine EX.pos c_4 ?_
        exact EX.uC E (gj20_17_ok (rc := rc) (rcf := rcf) hrc H ta0 to1 to2 hf)
      · replace hf := x_neg c_4 hf
        refine EX.neg c_4 ?_
        by_cases c_5 : x3 ≤ 40
        · replace hf := x_pos c_5 hf
          refine EX.pos c_5 ?_
          refine EX.bd (H.gR ea_2 to2 (by decide) (by decide) (by decide)) ?_
          exact EX.uC E (gl20_27_ok (rc := rc) (rcf := rcf) hrc xFuel H ta0 to1 to2 t_3 hf)
        · replace hf := x_neg c_5 hf
          refine EX.neg c_5 ?_
          exact EX.uC E (gj20_17_ok (rc := rc) (rcf := rcf) hrc H ta0 to1 to2 hf)
theorem g20_ok {h : xH} {C : xC} {o0 : Option Nat} {a0 : Nat} {o1 : Option Nat} {o2 : Option Nat} {x3 : Int32} {r : xC} (H : WH h C) (e0 : o0 = some a0) (ta0 : tR C o0 3) (to1 : tR C o1 8) (to2 : tR C o2 2) (hf : g20 a0 o1 o2 x3 C = some r) : EX (fn20 o0 o1 o2 x3 h) (fun z => z) (QC C r) := gr20_ok 60 H e0 ta0 to1 to2 hf
end
section
theorem gj21_65_ok {k19 : Nat → Option Nat → Option Nat → Int32 → xC → Option xC} {f19 : Option Nat → Option Nat → Option Nat → Int32 → xH → Option xH} (hk19 : ∀ {h : xH} {C : xC} {a0 : Nat} {o1 : Option Nat} {o2 : Option Nat} {x3 : Int32} {r : xC}, WH h C → tR C (some a0) 3 → tR C o1 2 → tR C o2 1 → k19 a0 o1 o2 x3 C = some r → EX (f19 (some a0) o1 o2 x3 h) (fun z => z) (QC C r)) {k28 : Nat → Option Nat → Option Nat → Int32 → Int32 → xC → Option xC} {f28 : Option Nat → Option Nat → Option Nat → Int32 → Int32 → xH → Option xH} (hk28 : ∀ {h : xH} {C : xC} {a0 : Nat} {o1 : Option Nat} {o2 : Option Nat} {x3 : Int32} {x4 : Int32} {r : xC}, WH h C → tR C (some a0) 3 → tR C o1 2 → tR C o2 1 → k28 a0 o1 o2 x3 x4 C = some r → EX (f28 (some a0) o1 o2 x3 x4 h) (fun z => z) (QC C r)) {h : xH} {C : xC} {a0 : Nat} {o1 : Option Nat} {o2 : Option Nat} {x3 : Int32} {x4 : Int32} {o5 : Option Nat} {r : xC} (H : WH h C) (ta0 : tR C (some a0) 3) (to1 : tR C o1 2) (to2 : tR C o2 1) (to5 : tR C o5 0) (hf : gj21_65 k19 k28 a0 o1 o2 x3 x4 o5 C = some r) : EX (j21_65 f19 f28 (some a0) o1 o2 x3 x4 o5 h) (fun z => z) (QC C r) := by
  have E := Ext.rfl' (C := C)
  unfold gj21_65 at hf
  unfold j21_65
  exact EX.uC E (hk28 H ta0 to1 to2 hf)
theorem gl21_28_ok {k19 : Nat → Option Nat → Option Nat → Int32 → xC → Option xC} {f19 : Option Nat → Option Nat → Option Nat → Int32 → xH → Option xH} (hk19 : ∀ {h : xH} {C : xC} {a0 : Nat} {o1 : Option Nat} {o2 : Option Nat} {x3 : Int32} {r : xC}, WH h C → tR C (some a0) 3 → tR C o1 2 → tR C o2 1 → k19 a0 o1 o2 x3 C = some r → EX (f19 (some a0) o1 o2 x3 h) (fun z => z) (QC C r)) : ∀ (n : Nat) {h : xH} {C : xC} {a0 : Nat} {o1 : Option Nat} {o2 : Option Nat} {x3 : Int32} {x4 : Int32} {r : xC} (H : WH h C) (ta0 : tR C (some a0) 3) (to1 : tR C o1 2) (to2 : tR C o2 1), gl21_28 k19 n a0 o1 o2 x3 x4 C = some r → EX (l21_28 f19 n (some a0) o1 o2 x3 x4 h) (fun z => z) (QC C r) := by
  intro n
  induction n with
  | zero => intros; rename_i hf; cases hf
  | succ n ih =>
    intro h C a0 o1 o2 x3 x4 r H ta0 to1 to2 hf
    have E := Ext.rfl' (C := C)
    replace hf : ((o2).bind fun a_1 => (if (cI C a_1 3) ≤ x4 then k19 a0 o1 o2 (x3 + 1) C else (g5 a_1 x4 C).bind fun r_4 => (if r_4.1 = none then gj21_65 k19 (gl21_28 k19 n) a0 o1 o2 x3 x4 r_4.1 r_4.2 else (r_4.1).bind fun a_7 => (if (cI r_4.2 a_7 1) = x3 then (g22 a0 r_4.1 r_4.2).bind fun C_10 => gj21_65 k19 (gl21_28 k19 n) a0 o1 o2 x3 x4 r_4.1 C_10 else gj21_65 k19 (gl21_28 k19 n) a0 o1 o2 x3 x4 r_4.1 r_4.2)))) = some r := hf
    unfold l21_28
    obtain ⟨a_1, ea_1, hf⟩ := x_bind hf
    refine EX.bd (H.gI ea_1 to2 (by decide) (by decide) rfl) ?_
    by_cases c_2 : (cI C a_1 3) ≤ x4
    · replace hf := x_pos c_2 hf
      refine EX.pos c_2 ?_
      exact EX.uC E (hk19 H ta0 to1 to2 hf)
    · replace hf := x_neg c_2 hf
      refine EX.neg c_2 ?_
      have Hc_ := H.cv ea_1 to2 (by decide)
      obtain ⟨r_4, er_4, hf⟩ := x_bind hf
      obtain ⟨h_3, eh_3, H, E_, t_5⟩ := g5_ok H ea_1 to2 er_4
      refine EX.bd Hc_ ?_
      refine EX.bd eh_3 ?_
      dsimp only
      replace to1 := to1.up E_
      replace ta0 := ta0.up E_
      replace to2 := to2.up E_
      replace E := E.tr E_
      by_cases c_6 : r_4.1 = none
      · replace hf := x_pos c_6 hf
        refine EX.pos c_6 ?_
        exact EX.uC E (gj21_65_ok (k19 := k19) (f19 := f19) hk19 (k28 := (gl21_28 k19 n)) (f28 := (l21_28 f19 n)) ih H ta0 to1 to2 t_5 hf)
      · replace hf := x_neg c_6 hf
        refine EX.neg c_6 ?_
        obtain ⟨a_7, ea_7, hf⟩ := x_bind hf
        refine EX.bd (H.gI ea_7 t_5 (by decide) (by decide) rfl) ?_
        by_cases c_8 : (cI r_4.2 a_7 1) = x3
        · replace hf := x_pos c_8 hf
          refine EX.pos c_8 ?_
          have Hc_ := H.cv rfl ta0 (by decide)
          obtain ⟨C_10, eC_10, hf⟩ := x_bind hf
          obtain ⟨h_9, eh_9, H, E_⟩ := g22_ok H rfl ta0 t_5 eC_10
          refine EX.bd Hc_ ?_
          refine EX.bd eh_9 ?_
          replace to1 := to1.up E_
          replace ta0 := ta0.up E_
          replace t_5 := t_5.up E_
          replace to2 := to2.up E_
          replace E := E.tr E_
          exact EX.uC E (gj21_65_ok (k19 := k19) (f19 := f19) hk19 (k28 := (gl21_28 k19 n)) (f28 := (l21_28 f19 n)) ih H ta0 to1 to2 t_5 hf)
        · replace hf := x_neg c_8 hf
          refine EX.neg c_8 ?_
          exact EX.uC E (gj21_65_ok (k19 := k19) (f19 := f19) hk19 (k28 := (gl21_28 k19 n)) (f28 := (l21_28 f19 n)) ih H ta0 to1 to2 t_5 hf)
theorem gl21_19_ok : ∀ (n : Nat) {h : xH} {C : xC} {a0 : Nat} {o1 : Option Nat} {o2 : Option Nat} {x3 : Int32} {r : xC} (H : WH h C) (ta0 : tR C (some a0) 3) (to1 : tR C o1 2) (to2 : tR C o2 1), gl21_19 n a0 o1 o2 x3 C = some r → EX (l21_19 n (some a0) o1 o2 x3 h) (fun z => z) (QC C r) := by
  intro n
  induction n with
  | zero => intros; rename_i hf; cases hf
  | succ n ih =>
    intro h C a0 o1 o2 x3 r H ta0 to1 to2 hf
    have E := Ext.rfl' (C := C)
    replace hf : ((if 6 < x3 then some C else gl21_28 (gl21_19 n) xFuel a0 o1 o2 x3 0 C)) = some r := hf
    unfold l21_19
    by_cases c_1 : 6 < x3
    · replace hf := x_pos c_1 hf
      refine EX.pos c_1 ?_
      obtain rfl := Option.some.inj hf
      exact ⟨_, rfl, H, E⟩
    · replace hf := x_neg c_1 hf
      refine EX.neg c_1 ?_
      exact EX.uC E (gl21_28_ok (k19 := (gl21_19 n)) (f19 := (l21_19 n)) ih xFuel H ta0 to1 to2 hf)
theorem gj21_11_ok {h : xH} {C : xC} {a0 : Nat} {o1 : Option Nat} {r : xC} (H : WH h C) (ta0 : tR C (some a0) 3) (to1 : tR C o1 2) (hf : gj21_11 a0 o1 C = some r) : EX (j21_11 (some a0) o1 h) (fun z => z) (QC C r) := by
  have E := Ext.rfl' (C := C)
  unfold gj21_11 at hf
  unfold j21_11
  obtain rfl := Option.some.inj hf
  exact ⟨_, rfl, H, E⟩
theorem g21_ok {h : xH} {C : xC} {o0 : Option Nat} {a0 : Nat} {o1 : Option Nat} {r : xC} (H : WH h C) (e0 : o0 = some a0) (ta0 : tR C o0 3) (to1 : tR C o1 2) (hf : g21 a0 o1 C = some r) : EX (fn21 o0 o1 h) (fun z => z) (QC C r) := by
  subst e0
  have E := Ext.rfl' (C := C)
  unfold g21 at hf
  unfold fn21
  by_cases c_1 : o1 = none
  · replace hf := x_pos c_1 hf
    refine EX.pos c_1 ?_
    exact EX.uC E (gj21_11_ok H ta0 to1 hf)
  · replace hf := x_neg c_1 hf
    refine EX.neg c_1 ?_
    obtain ⟨a_2, ea_2, hf⟩ := x_bind hf
    refine EX.bd (H.gR ea_2 to1 (by decide) (by decide) (by decide)) ?_
    have t_3 := H.tyR ea_2 to1 (ci := 2) (k := 7) (by decide) (by decide) (by decide)
    by_cases c_4 : (cR C a_2 7) = none
    · replace hf := x_pos c_4 hf
      refine EX.pos c_4 ?_
      exact EX.uC E (gj21_11_ok H ta0 to1 hf)
    · replace hf := x_neg c_4 hf
      refine EX.neg c_4 ?_
      refine EX.bd (H.gR ea_2 to1 (by decide) (by decide) (by decide)) ?_
      exact EX.uC E (gl21_19_ok xFuel H ta0 to1 t_3 hf)
end
section
theorem g87_ok {h : xH} {C : xC} {o0 : Option Nat} {a0 : Nat} {o1 : Option Nat} {x2 : Int32} {x3 : Int32} {r : (Option Nat × xC)} (H : WH h C) (e0 : o0 = some a0) (ta0 : tR C o0 8) (to1 : tR C o1 9) (hf : g87 a0 o1 x2 x3 C = some r) : EX (fn87 o0 o1 x2 x3 h) (fun z => (r.1, z)) (QR 2 C r) := by
  subst e0
  have E := Ext.rfl' (C := C)
  unfold g87 at hf
  unfold fn87
  have Hc_ := H.cv rfl ta0 (by decide)
  obtain ⟨r_2, er_2, hf⟩ := x_bind hf
  obtain ⟨h_1, eh_1, H, E_, t_3⟩ := g88_ok H rfl ta0 tR_none to1 er_2
  refine EX.bd Hc_ ?_
  refine EX.bd eh_1 ?_
  dsimp only
  replace to1 := to1.up E_
  replace ta0 := ta0.up E_
  replace E := E.tr E_
  obtain rfl := Option.some.inj hf
  exact ⟨_, rfl, H, E, t_3⟩
end
section
theorem gj105_25_ok {h : xH} {C : xC} {a0 : Nat} {x1 : Int32} {x2 : Int32} {x3 : Int32} {x4 : Int32} {r : (Int32 × xC)} (H : WH h C) (ta0 : tR C (some a0) 9) (hf : gj105_25 a0 x1 x2 x3 x4 C = some r) : EX (j105_25 (some a0) x1 x2 x3 x4 h) (fun z => (r.1, z)) (QC C r.2) := by
  have E := Ext.rfl' (C := C)
  unfold gj105_25 at hf
  unfold j105_25
  obtain rfl := Option.some.inj hf
  exact ⟨_, rfl, H, E⟩
theorem gl105_3_ok : ∀ (n : Nat) {h : xH} {C : xC} {a0 : Nat} {x1 : Int32} {x2 : Int32} {x3 : Int32} {x4 : Int32} {r : (Int32 × xC)} (H : WH h C) (ta0 : tR C (some a0) 9), gl105_3 n a0 x1 x2 x3 x4 C = some r → EX (l105_3 n (some a0) x1 x2 x3 x4 h) (fun z => (r.1, z)) (QC C r.2) := by
  intro n
  induction n with
  | zero => intros; rename_i hf; cases hf
  | succ n ih =>
    intro h C a0 x1 x2 x3 x4 r H ta0 hf
    have E := Ext.rfl' (C := C)
    replace hf : ((if x3 ≤ x4 then gj105_25 a0 x1 x2 x3 x4 C else (g96 a0 x4 C).bind fun r_3 => (if r_3.1 = x1 then gj105_25 a0 x1 x2 x3 x4 r_3.2 else gl105_3 n a0 x1 x2 x3 (x4 + 1) r_3.2))) = some r := hf
    unfold l105_3
    by_cases c_1 : x3 ≤ x4
    · replace hf := x_pos c_1 hf
      refine EX.pos c_1 ?_
      exact EX.uC E (gj105_25_ok H ta0 hf)
    · replace hf := x_neg c_1 hf
      refine EX.neg c_1 ?_
      have Hc_ := H.cv rfl ta0 (by decide)
      obtain ⟨r_3, er_3, hf⟩ := x_bind hf
      obtain ⟨h_2, eh_2, H, E_⟩ := g96_ok H rfl ta0 er_3
      refine EX.bd Hc_ ?_
      refine EX.bd eh_2 ?_
      dsimp only
      replace ta0 := ta0.up E_
      replace E := E.tr E_
      by_cases c_4 : r_3.1 = x1
      · replace hf := x_pos c_4 hf
        refine EX.pos c_4 ?_
        exact EX.uC E (gj105_25_ok H ta0 hf)
      · replace hf := x_neg c_4 hf
        refine EX.neg c_4 ?_
        exact EX.uC E (ih H ta0 hf)
theorem g105_ok {h : xH} {C : xC} {o0 : Option Nat} {a0 : Nat} {x1 : Int32} {x2 : Int32} {x3 : Int32} {r : (Int32 × xC)} (H : WH h C) (e0 : o0 = some a0) (ta0 : tR C o0 9) (hf : g105 a0 x1 x2 x3 C = some r) : EX (fn105 o0 x1 x2 x3 h) (fun z => (r.1, z)) (QC C r.2) := by
  subst e0
  have E := Ext.rfl' (C := C)
  unfold g105 at hf
  unfold fn105
  exact EX.uC E (gl105_3_ok xFuel H ta0 hf)
end
section
theorem gj135_15_ok {h : xH} {C : xC} {x0 : Int32} {x1 : Int32} {x2 : Int32} {s0 : Int32} {r : (Int32 × xC)} (H : WH h C) (hf : gj135_15 x0 x1 x2 s0 C = some r) : EX (j135_15 x0 x1 x2 s0 h) (fun z => (r.1, z)) (QC C r.2) := by
  have E := Ext.rfl' (C := C)
  unfold gj135_15 at hf
  unfold j135_15
  by_cases c_1 : s0 &&& 1 = s0
  · replace hf := x_pos c_1 hf
    refine EX.pos c_1 ?_
    obtain rfl := Option.some.inj hf
    exact ⟨_, rfl, H, E⟩
  · replace hf := x_neg c_1 hf
    cases hf
theorem gj135_14_ok {h : xH} {C : xC} {x0 : Int32} {x1 : Int32} {x2 : Int32} {r : (Int32 × xC)} (H : WH h C) (hf : gj135_14 x0 x1 x2 C = some r) : EX (j135_14 x0 x1 x2 h) (fun z => (r.1, z)) (QC C r.2) := by
  have E := Ext.rfl' (C := C)
  unfold gj135_14 at hf
  unfold j135_14
  exact EX.uC E (gj135_15_ok H hf)
theorem g135_ok {h : xH} {C : xC} {x0 : Int32} {x1 : Int32} {x2 : Int32} {r : (Int32 × xC)} (H : WH h C) (hf : g135 x0 x1 x2 C = some r) : EX (fn135 x0 x1 x2 h) (fun z => (r.1, z)) (QC C r.2) := by
  have E := Ext.rfl' (C := C)
  unfold g135 at hf
  unfold fn135
  by_cases c_1 : x0 < x1
  · replace hf := x_pos c_1 hf
    refine EX.pos c_1 ?_
    exact EX.uC E (gj135_14_ok H hf)
  · replace hf := x_neg c_1 hf
    refine EX.neg c_1 ?_
    by_cases c_2 : x2 < x0
    · replace hf := x_pos c_2 hf
      refine EX.pos c_2 ?_
      exact EX.uC E (gj135_14_ok H hf)
    · replace hf := x_neg c_2 hf
      refine EX.neg c_2 ?_
      exact EX.uC E (gj135_15_ok H hf)
end
section
theorem g93_ok {h : xH} {C : xC} {o0 : Option Nat} {a0 : Nat} {o1 : Option Nat} {x2 : Int32} {x3 : Int32} {o4 : Option Nat} {r : (Option Nat × xC)} (H : WH h C) (e0 : o0 = some a0) (ta0 : tR C o0 8) (to1 : tR C o1 9) (to4 : tR C o4 2) (hf : g93 a0 o1 x2 x3 o4 C = some r) : EX (fn93 o0 o1 x2 x3 o4 h) (fun z => (r.1, z)) (QR 2 C r) := by
  subst e0
  have E := Ext.rfl' (C := C)
  unfold g93 at hf
  unfold fn93
  by_cases c_1 : o4 = none
  · replace hf := x_pos c_1 hf
    refine EX.pos c_1 ?_
    obtain rfl := Option.some.inj hf
    exact ⟨_, rfl, H, E, tR_none⟩
  · replace hf := x_neg c_1 hf
    refine EX.neg c_1 ?_
    obtain ⟨a_4, ea_4, hf⟩ := x_bind hf
    have Hc_ := H.cv ea_4 to1 (by decide)
    obtain ⟨r_3, er_3, hf⟩ := x_bind hf
    obtain ⟨h_2, eh_2, H, E_⟩ := g105_ok H ea_4 to1 er_3
    refine EX.bd Hc_ ?_
    refine EX.bd eh_2 ?_
    dsimp only
    replace to1 := to1.up E_
    replace ta0 := ta0.up E_
    replace to4 := to4.up E_
    replace E := E.tr E_
    by_cases c_5 : x3 ≤ r_3.1
    · replace hf := x_pos c_5 hf
      refine EX.pos c_5 ?_
      have Hc_ := H.cv ea_4 to1 (by decide)
      obtain ⟨r_7, er_7, hf⟩ := x_bind hf
      obtain ⟨h_6, eh_6, H, E_⟩ := g96_ok H ea_4 to1 er_7
      refine EX.bd Hc_ ?_
      refine EX.bd eh_6 ?_
      dsimp only
      replace to1 := to1.up E_
      replace ta0 := ta0.up E_
      replace to4 := to4.up E_
      replace E := E.tr E_
      obtain ⟨r_9, er_9, hf⟩ := x_bind hf
      obtain ⟨h_8, eh_8, H, E_⟩ := g135_ok H er_9
      refine EX.bd eh_8 ?_
      dsimp only
      replace to1 := to1.up E_
      replace ta0 := ta0.up E_
      replace to4 := to4.up E_
      replace E := E.tr E_
      by_cases c_10 : r_9.1 = 0
      · replace hf := x_pos c_10 hf
        refine EX.pos c_10 ?_
        obtain ⟨a_13, ea_13, hf⟩ := x_bind hf
        have Hc_ := H.cv ea_13 to4 (by decide)
        obtain ⟨r_12, er_12, hf⟩ := x_bind hf
        obtain ⟨h_11, eh_11, H, E_, t_14⟩ := g13_ok H ea_13 to4 er_12
        refine EX.bd Hc_ ?_
        refine EX.bd eh_11 ?_
        dsimp only
        replace to1 := to1.up E_
        replace ta0 := ta0.up E_
        replace to4 := to4.up E_
        replace E := E.tr E_
        have Hc_ := H.cv rfl ta0 (by decide)
        obtain ⟨r_16, er_16, hf⟩ := x_bind hf
        obtain ⟨h_15, eh_15, H, E_, t_17⟩ := g89_ok H rfl ta0 t_14 to1 er_16
        refine EX.bd Hc_ ?_
        refine EX.bd eh_15 ?_
        dsimp only
        replace to1 := to1.up E_
        replace ta0 := ta0.up E_
        replace to4 := to4.up E_
        replace E := E.tr E_
        obtain rfl := Option.some.inj hf
        exact ⟨_, rfl, H, E, t_17⟩
      · replace hf := x_neg c_10 hf
        refine EX.neg c_10 ?_
        have Hc_ := H.cv rfl ta0 (by decide)
        obtain ⟨r_19, er_19, hf⟩ := x_bind hf
        obtain ⟨h_18, eh_18, H, E_, t_20⟩ := g87_ok H rfl ta0 to1 er_19
        refine EX.bd Hc_ ?_
        refine EX.bd eh_18 ?_
        dsimp only
        replace to1 := to1.up E_
        replace ta0 := ta0.up E_
        replace to4 := to4.up E_
        replace E := E.tr E_
        obtain rfl := Option.some.inj hf
        exact ⟨_, rfl, H, E, t_20⟩
    · replace hf := x_neg c_5 hf
      refine EX.neg c_5 ?_
      have Hc_ := H.cv rfl ta0 (by decide)
      obtain ⟨r_22, er_22, hf⟩ := x_bind hf
      obtain ⟨h_21, eh_21, H, E_, t_23⟩ := g87_ok H rfl ta0 to1 er_22
      refine EX.bd Hc_ ?_
      refine EX.bd eh_21 ?_
      dsimp only
      replace to1 := to1.up E_
      replace ta0 := ta0.up E_
      replace to4 := to4.up E_
      replace E := E.tr E_
      have Hc_ := H.cv rfl ta0 (by decide)
      obtain ⟨r_25, er_25, hf⟩ := x_bind hf
      obtain ⟨h_24, eh_24, H, E_, t_26⟩ := g89_ok H rfl ta0 t_23 to1 er_25
      refine EX.bd Hc_ ?_
      refine EX.bd eh_24 ?_
      dsimp only
      replace to1 := to1.up E_
      replace ta0 := ta0.up E_
      replace to4 := to4.up E_
      replace E := E.tr E_
      obtain rfl := Option.some.inj hf
      exact ⟨_, rfl, H, E, t_26⟩
end
section
theorem gj94_99_ok {k38 : Nat → Option Nat → Option Nat → Int32 → xC → Option xC} {f38 : Option Nat → Option Nat → Option Nat → Int32 → xH → Option xH} (hk38 : ∀ {h : xH} {C : xC} {a0 : Nat} {o1 : Option Nat} {o2 : Option Nat} {x3 : Int32} {r : xC}, WH h C → tR C (some a0) 8 → tR C o1 1 → tR C o2 0 → k38 a0 o1 o2 x3 C = some r → EX (f38 (some a0) o1 o2 x3 h) (fun z => z) (QC C r)) {h : xH} {C : xC} {a0 : Nat} {o1 : Option Nat} {o2 : Option Nat} {x3 : Int32} {o4 : Option Nat} {r : xC} (H : WH h C) (ta0 : tR C (some a0) 8) (to1 : tR C o1 1) (to2 : tR C o2 0) (to4 : tR C o4 6) (hf : gj94_99 k38 a0 o1 o2 x3 o4 C = some r) : EX (j94_99 f38 (some a0) o1 o2 x3 o4 h) (fun z => z) (QC C r) := by
  have E := Ext.rfl' (C := C)
  unfold gj94_99 at hf
  unfold j94_99
  exact EX.uC E (hk38 H ta0 to1 to2 hf)
theorem gl94_38_ok : ∀ (n : Nat) {h : xH} {C : xC} {a0 : Nat} {o1 : Option Nat} {o2 : Option Nat} {x3 : Int32} {r : xC} (H : WH h C) (ta0 : tR C (some a0) 8) (to1 : tR C o1 1) (to2 : tR C o2 0), gl94_38 n a0 o1 o2 x3 C = some r → EX (l94_38 n (some a0) o1 o2 x3 h) (fun z => z) (QC C r) := by
  intro n
  induction n with
  | zero => intros; rename_i hf; cases hf
  | succ n ih =>
    intro h C a0 o1 o2 x3 r H ta0 to1 to2 hf
    have E := Ext.rfl' (C := C)
    replace hf : ((o2).bind fun a_1 => (if (cI C a_1 5) ≤ x3 then some C else (o1).bind fun a_5 => (g6 a_5 ((cI C a_1 4) + x3) C).bind fun r_4 => (if r_4.1 = none then gj94_99 (gl94_38 n) a0 o1 o2 x3 r_4.1 r_4.2 else (r_4.1).bind fun a_8 => (if (cI r_4.2 a_8 0) = 2 then (g93 a0 (cR r_4.2 a_5 0) (cI r_4.2 a_8 4) (cI r_4.2 a_8 5) (cR r_4.2 a_5 5) r_4.2).bind fun r_13 => (some (uR r_13.2 a_8 7 r_13.1)).bind fun C_15 => gj94_99 (gl94_38 n) a0 o1 o2 x3 r_4.1 C_15 else gj94_99 (gl94_38 n) a0 o1 o2 x3 r_4.1 r_4.2)))) = some r := hf
    unfold l94_38
    obtain ⟨a_1, ea_1, hf⟩ := x_bind hf
    refine EX.bd (H.gI ea_1 to2 (by decide) (by decide) rfl) ?_
    by_cases c_2 : (cI C a_1 5) ≤ x3
    · replace hf := x_pos c_2 hf
      refine EX.pos c_2 ?_
      obtain rfl := Option.some.inj hf
      exact ⟨_, rfl, H, E⟩
    · replace hf := x_neg c_2 hf
      refine EX.neg c_2 ?_
      refine EX.bd (H.gI ea_1 to2 (by decide) (by decide) rfl) ?_
      obtain ⟨a_5, ea_5, hf⟩ := x_bind hf
      have Hc_ := H.cv ea_5 to1 (by decide)
      obtain ⟨r_4, er_4, hf⟩ := x_bind hf
      obtain ⟨h_3, eh_3, H, E_, t_6⟩ := g6_ok H ea_5 to1 er_4
      refine EX.bd Hc_ ?_
      refine EX.bd eh_3 ?_
      dsimp only
      replace to1 := to1.up E_
      replace ta0 := ta0.up E_
      replace to2 := to2.up E_
      replace E := E.tr E_
      by_cases c_7 : r_4.1 = none
      · replace hf := x_pos c_7 hf
        refine EX.pos c_7 ?_
        exact EX.uC E (gj94_99_ok (k38 := (gl94_38 n)) (f38 := (l94_38 n)) ih H ta0 to1 to2 t_6 hf)
      · replace hf := x_neg c_7 hf
        refine EX.neg c_7 ?_
        obtain ⟨a_8, ea_8, hf⟩ := x_bind hf
        refine EX.bd (H.gI ea_8 t_6 (by decide) (by decide) rfl) ?_
        by_cases c_9 : (cI r_4.2 a_8 0) = 2
        · replace hf := x_pos c_9 hf
          refine EX.pos c_9 ?_
          refine EX.bd (H.gR ea_5 to1 (by decide) (by decide) (by decide)) ?_
          have t_10 := H.tyR ea_5 to1 (ci := 1) (k := 0) (by decide) (by decide) (by decide)
          refine EX.bd (H.gI ea_8 t_6 (by decide) (by decide) rfl) ?_
          refine EX.bd (H.gI ea_8 t_6 (by decide) (by decide) rfl) ?_
          refine EX.bd (H.gR ea_5 to1 (by decide) (by decide) (by decide)) ?_
          have t_11 := H.tyR ea_5 to1 (ci := 1) (k := 5) (by decide) (by decide) (by decide)
          have Hc_ := H.cv rfl ta0 (by decide)
          obtain ⟨r_13, er_13, hf⟩ := x_bind hf
          obtain ⟨h_12, eh_12, H, E_, t_14⟩ := g93_ok H rfl ta0 t_10 t_11 er_13
          refine EX.bd Hc_ ?_
          refine EX.bd eh_12 ?_
          dsimp only
          replace to1 := to1.up E_
          replace ta0 := ta0.up E_
          replace t_6 := t_6.up E_
          replace to2 := to2.up E_
          replace E := E.tr E_
          obtain ⟨C_15, eC_15, hf⟩ := x_bind hf
          obtain ⟨h_16, eh_16, H, E_⟩ := H.pR (ci := 6) (k := 7) (ty := (.object "DocFormat$Entry")) ea_8 t_6 t_14 (by decide) (by decide) (by decide) rfl rfl eC_15
          refine EX.bd eh_16 ?_
          replace to1 := to1.up E_
          replace ta0 := ta0.up E_
          replace t_6 := t_6.up E_
          replace to2 := to2.up E_
          replace E := E.tr E_
          exact EX.uC E (gj94_99_ok (k38 := (gl94_38 n)) (f38 := (l94_38 n)) ih H ta0 to1 to2 t_6 hf)
        · replace hf := x_neg c_9 hf
          refine EX.neg c_9 ?_
          exact EX.uC E (gj94_99_ok (k38 := (gl94_38 n)) (f38 := (l94_38 n)) ih H ta0 to1 to2 t_6 hf)
theorem gj94_36_ok {h : xH} {C : xC} {a0 : Nat} {o1 : Option Nat} {o2 : Option Nat} {r : xC} (H : WH h C) (ta0 : tR C (some a0) 8) (to1 : tR C o1 1) (to2 : tR C o2 0) (hf : gj94_36 a0 o1 o2 C = some r) : EX (j94_36 (some a0) o1 o2 h) (fun z => z) (QC C r) := by
  have E := Ext.rfl' (C := C)
  unfold gj94_36 at hf
  unfold j94_36
  exact EX.uC E (gl94_38_ok xFuel H ta0 to1 to2 hf)
theorem g94_ok {h : xH} {C : xC} {o0 : Option Nat} {a0 : Nat} {o1 : Option Nat} {o2 : Option Nat} {r : xC} (H : WH h C) (e0 : o0 = some a0) (ta0 : tR C o0 8) (to1 : tR C o1 1) (to2 : tR C o2 0) (hf : g94 a0 o1 o2 C = some r) : EX (fn94 o0 o1 o2 h) (fun z => z) (QC C r) := by
  subst e0
  have E := Ext.rfl' (C := C)
  unfold g94 at hf
  unfold fn94
  obtain ⟨a_3, ea_3, hf⟩ := x_bind hf
  obtain ⟨C_1, eC_1, hf⟩ := x_bind hf
  obtain ⟨h_2, eh_2, H, E_⟩ := H.pR (ci := 0) (k := 9) (ty := (.object "DocFormat$Entry")) ea_3 to2 tR_none (by decide) (by decide) (by decide) rfl rfl eC_1
  refine EX.bd eh_2 ?_
  replace to1 := to1.up E_
  replace ta0 := ta0.up E_
  replace to2 := to2.up E_
  replace E := E.tr E_
  have Hc_ := H.cv ea_3 to2 (by decide)
  obtain ⟨r_5, er_5, hf⟩ := x_bind hf
  obtain ⟨h_4, eh_4, H, E_⟩ := g1_ok H ea_3 to2 er_5
  refine EX.bd Hc_ ?_
  refine EX.bd eh_4 ?_
  dsimp only
  replace to1 := to1.up E_
  replace ta0 := ta0.up E_
  replace to2 := to2.up E_
  replace E := E.tr E_
  by_cases c_6 : r_5.1 = 0
  · replace hf := x_pos c_6 hf
    refine EX.pos c_6 ?_
    exact EX.uC E (gj94_36_ok H ta0 to1 to2 hf)
  · replace hf := x_neg c_6 hf
    refine EX.neg c_6 ?_
    obtain ⟨a_7, ea_7, hf⟩ := x_bind hf
    refine EX.bd (H.gR ea_7 to1 (by decide) (by decide) (by decide)) ?_
    have t_8 := H.tyR ea_7 to1 (ci := 1) (k := 0) (by decide) (by decide) (by decide)
    refine EX.bd (H.gI ea_3 to2 (by decide) (by decide) rfl) ?_
    refine EX.bd (H.gI ea_3 to2 (by decide) (by decide) rfl) ?_
    refine EX.bd (H.gR ea_7 to1 (by decide) (by decide) (by decide)) ?_
    have t_9 := H.tyR ea_7 to1 (ci := 1) (k := 5) (by decide) (by decide) (by decide)
    have Hc_ := H.cv rfl ta0 (by decide)
    obtain ⟨r_11, er_11, hf⟩ := x_bind hf
    obtain ⟨h_10, eh_10, H, E_, t_12⟩ := g93_ok H rfl ta0 t_8 t_9 er_11
    refine EX.bd Hc_ ?_
    refine EX.bd eh_10 ?_
    dsimp only
    replace to1 := to1.up E_
    replace ta0 := ta0.up E_
    replace to2 := to2.up E_
    replace E := E.tr E_
    obtain ⟨C_13, eC_13, hf⟩ := x_bind hf
    obtain ⟨h_14, eh_14, H, E_⟩ := H.pR (ci := 0) (k := 9) (ty := (.object "DocFormat$Entry")) ea_3 to2 t_12 (by decide) (by decide) (by decide) rfl rfl eC_13
    refine EX.bd eh_14 ?_
    replace to1 := to1.up E_
    replace ta0 := ta0.up E_
    replace to2 := to2.up E_
    replace E := E.tr E_
    exact EX.uC E (gj94_36_ok H ta0 to1 to2 hf)
end
section
theorem gj23_37_ok {k2 : Nat → Option Nat → Int32 → xC → Option xC} {f2 : Option Nat → Option Nat → Int32 → xH → Option xH} (hk2 : ∀ {h : xH} {C : xC} {a0 : Nat} {o1 : Option Nat} {x2 : Int32} {r : xC}, WH h C → tR C (some a0) 3 → tR C o1 8 → k2 a0 o1 x2 C = some r → EX (f2 (some a0) o1 x2 h) (fun z => z) (QC C r)) {h : xH} {C : xC} {a0 : Nat} {o1 : Option Nat} {x2 : Int32} {o3 : Option Nat} {r : xC} (H : WH h C) (ta0 : tR C (some a0) 3) (to1 : tR C o1 8) (to3 : tR C o3 0) (hf : gj23_37 k2 a0 o1 x2 o3 C = some r) : EX (j23_37 f2 (some a0) o1 x2 o3 h) (fun z => z) (QC C r) := by
  have E := Ext.rfl' (C := C)
  unfold gj23_37 at hf
  unfold j23_37
  exact EX.uC E (hk2 H ta0 to1 hf)
theorem gl23_2_ok : ∀ (n : Nat) {h : xH} {C : xC} {a0 : Nat} {o1 : Option Nat} {x2 : Int32} {r : xC} (H : WH h C) (ta0 : tR C (some a0) 3) (to1 : tR C o1 8), gl23_2 n a0 o1 x2 C = some r → EX (l23_2 n (some a0) o1 x2 h) (fun z => z) (QC C r) := by
  intro n
  induction n with
  | zero => intros; rename_i hf; cases hf
  | succ n ih =>
    intro h C a0 o1 x2 r H ta0 to1 hf
    have E := Ext.rfl' (C := C)
    replace hf : ((if (cI C a0 1) ≤ x2 then some C else (cR C a0 0).bind fun a_4 => (cLR C a_4 x2).bind fun o_3 => (if o_3 = none then gj23_37 (gl23_2 n) a0 o1 x2 o_3 C else (o_3).bind fun a_7 => (if (cR C a_7 0) = none then gj23_37 (gl23_2 n) a0 o1 x2 o_3 C else (o1).bind fun a_12 => (g94 a_12 (cR C a_7 0) o_3 C).bind fun C_11 => gj23_37 (gl23_2 n) a0 o1 x2 o_3 C_11)))) = some r := hf
    unfold l23_2
    refine EX.bd (H.gI rfl ta0 (by decide) (by decide) rfl) ?_
    by_cases c_1 : (cI C a0 1) ≤ x2
    · replace hf := x_pos c_1 hf
      refine EX.pos c_1 ?_
      obtain rfl := Option.some.inj hf
      exact ⟨_, rfl, H, E⟩
    · replace hf := x_neg c_1 hf
      refine EX.neg c_1 ?_
      refine EX.bd (H.gR rfl ta0 (by decide) (by decide) (by decide)) ?_
      have t_2 := H.tyR rfl ta0 (ci := 3) (k := 0) (by decide) (by decide) (by decide)
      obtain ⟨a_4, ea_4, hf⟩ := x_bind hf
      obtain ⟨o_3, eo_3, hf⟩ := x_bind hf
      refine EX.bd (H.lR ea_4 t_2 (by decide) (by decide) eo_3) ?_
      have t_5 := H.tL ea_4 t_2 (ci := 15) (by decide) (by decide) eo_3
      by_cases c_6 : o_3 = none
      · replace hf := x_pos c_6 hf
        refine EX.pos c_6 ?_
        exact EX.uC E (gj23_37_ok (k2 := (gl23_2 n)) (f2 := (l23_2 n)) ih H ta0 to1 t_5 hf)
      · replace hf := x_neg c_6 hf
        refine EX.neg c_6 ?_
        obtain ⟨a_7, ea_7, hf⟩ := x_bind hf
        refine EX.bd (H.gR ea_7 t_5 (by decide) (by decide) (by decide)) ?_
        have t_8 := H.tyR ea_7 t_5 (ci := 0) (k := 0) (by decide) (by decide) (by decide)
        by_cases c_9 : (cR C a_7 0) = none
        · replace hf := x_pos c_9 hf
          refine EX.pos c_9 ?_
          exact EX.uC E (gj23_37_ok (k2 := (gl23_2 n)) (f2 := (l23_2 n)) ih H ta0 to1 t_5 hf)
        · replace hf := x_neg c_9 hf
          refine EX.neg c_9 ?_
          refine EX.bd (H.gR ea_7 t_5 (by decide) (by decide) (by decide)) ?_
          obtain ⟨a_12, ea_12, hf⟩ := x_bind hf
          have Hc_ := H.cv ea_12 to1 (by decide)
          obtain ⟨C_11, eC_11, hf⟩ := x_bind hf
          obtain ⟨h_10, eh_10, H, E_⟩ := g94_ok H ea_12 to1 t_8 t_5 eC_11
          refine EX.bd Hc_ ?_
          refine EX.bd eh_10 ?_
          replace t_2 := t_2.up E_
          replace to1 := to1.up E_
          replace ta0 := ta0.up E_
          replace t_5 := t_5.up E_
          replace E := E.tr E_
          exact EX.uC E (gj23_37_ok (k2 := (gl23_2 n)) (f2 := (l23_2 n)) ih H ta0 to1 t_5 hf)
theorem g23_ok {h : xH} {C : xC} {o0 : Option Nat} {a0 : Nat} {o1 : Option Nat} {r : xC} (H : WH h C) (e0 : o0 = some a0) (ta0 : tR C o0 3) (to1 : tR C o1 8) (hf : g23 a0 o1 C = some r) : EX (fn23 o0 o1 h) (fun z => z) (QC C r) := by
  subst e0
  have E := Ext.rfl' (C := C)
  unfold g23 at hf
  unfold fn23
  exact EX.uC E (gl23_2_ok xFuel H ta0 to1 hf)
end
section
theorem gj25_46_ok {h : xH} {C : xC} {o0 : Option Nat} {o1 : Option Nat} {s0 : Int32} {r : (Int32 × xC)} (H : WH h C) (to0 : tR C o0 0) (to1 : tR C o1 0) (hf : gj25_46 o0 o1 s0 C = some r) : EX (j25_46 o0 o1 s0 h) (fun z => (r.1, z)) (QC C r.2) := by
  have E := Ext.rfl' (C := C)
  unfold gj25_46 at hf
  unfold j25_46
  by_cases c_1 : s0 &&& 1 = s0
  · replace hf := x_pos c_1 hf
    refine EX.pos c_1 ?_
    obtain rfl := Option.some.inj hf
    exact ⟨_, rfl, H, E⟩
  · replace hf := x_neg c_1 hf
    cases hf
theorem g25_ok {h : xH} {C : xC} {o0 : Option Nat} {o1 : Option Nat} {r : (Int32 × xC)} (H : WH h C) (to0 : tR C o0 0) (to1 : tR C o1 0) (hf : g25 o0 o1 C = some r) : EX (fn25 o0 o1 h) (fun z => (r.1, z)) (QC C r.2) := by
  have E := Ext.rfl' (C := C)
  unfold g25 at hf
  unfold fn25
  by_cases c_1 : o0 = none
  · replace hf := x_pos c_1 hf
    refine EX.pos c_1 ?_
    obtain rfl := Option.some.inj hf
    exact ⟨_, rfl, H, E⟩
  · replace hf := x_neg c_1 hf
    refine EX.neg c_1 ?_
    obtain ⟨a_2, ea_2, hf⟩ := x_bind hf
    refine EX.bd (H.gI ea_2 to1 (by decide) (by decide) rfl) ?_
    obtain ⟨r_4, er_4, hf⟩ := x_bind hf
    obtain ⟨h_3, eh_3, H, E_⟩ := g138_ok H er_4
    refine EX.bd eh_3 ?_
    dsimp only
    replace to0 := to0.up E_
    replace to1 := to1.up E_
    replace E := E.tr E_
    by_cases c_5 : r_4.1 = 0
    · replace hf := x_pos c_5 hf
      refine EX.pos c_5 ?_
      refine EX.bd (H.gI ea_2 to1 (by decide) (by decide) rfl) ?_
      by_cases c_6 : (cI r_4.2 a_2 8) = 0
      · replace hf := x_pos c_6 hf
        refine EX.pos c_6 ?_
        exact EX.uC E (gj25_46_ok H to0 to1 hf)
      · replace hf := x_neg c_6 hf
        refine EX.neg c_6 ?_
        exact EX.uC E (gj25_46_ok H to0 to1 hf)
    · replace hf := x_neg c_5 hf
      refine EX.neg c_5 ?_
      obtain ⟨a_7, ea_7, hf⟩ := x_bind hf
      refine EX.bd (H.gI ea_7 to0 (by decide) (by decide) rfl) ?_
      obtain ⟨r_9, er_9, hf⟩ := x_bind hf
      obtain ⟨h_8, eh_8, H, E_⟩ := g138_ok H er_9
      refine EX.bd eh_8 ?_
      dsimp only
      replace to0 := to0.up E_
      replace to1 := to1.up E_
      replace E := E.tr E_
      by_cases c_10 : r_9.1 = 0
      · replace hf := x_pos c_10 hf
        refine EX.pos c_10 ?_
        exact EX.uC E (gj25_46_ok H to0 to1 hf)
      · replace hf := x_neg c_10 hf
        refine EX.neg c_10 ?_
        exact EX.uC E (gj25_46_ok H to0 to1 hf)
end
section
theorem gj27_42_ok {h : xH} {C : xC} {o0 : Option Nat} {x1 : Int32} {s0 : Option Nat} {s1 : Int32} {r : xC} (H : WH h C) (to0 : tR C o0 9) (ts0 : tR C s0 9) (hf : gj27_42 o0 x1 s0 s1 C = some r) : EX (j27_42 o0 x1 s0 s1 h) (fun z => z) (QC C r) := by
  have E := Ext.rfl' (C := C)
  unfold gj27_42 at hf
  unfold j27_42
  obtain ⟨a_3, ea_3, hf⟩ := x_bind hf
  have Hc_ := H.cv ea_3 ts0 (by decide)
  obtain ⟨r_2, er_2, hf⟩ := x_bind hf
  obtain ⟨h_1, eh_1, H, E_⟩ := g97_ok H ea_3 ts0 er_2
  refine EX.bd Hc_ ?_
  refine EX.bd eh_1 ?_
  dsimp only
  replace to0 := to0.up E_
  replace ts0 := ts0.up E_
  replace E := E.tr E_
  obtain ⟨a_6, ea_6, hf⟩ := x_bind hf
  have Hc_ := H.cv ea_6 to0 (by decide)
  obtain ⟨r_5, er_5, hf⟩ := x_bind hf
  obtain ⟨h_4, eh_4, H, E_⟩ := g97_ok H ea_6 to0 er_5
  refine EX.bd Hc_ ?_
  refine EX.bd eh_4 ?_
  dsimp only
  replace to0 := to0.up E_
  replace ts0 := ts0.up E_
  replace E := E.tr E_
  obtain rfl := Option.some.inj hf
  exact ⟨_, rfl, H, E⟩
theorem gj27_25_ok {h : xH} {C : xC} {o0 : Option Nat} {x1 : Int32} {r : xC} (H : WH h C) (to0 : tR C o0 9) (hf : gj27_25 o0 x1 C = some r) : EX (j27_25 o0 x1 h) (fun z => z) (QC C r) := by
  have E := Ext.rfl' (C := C)
  unfold gj27_25 at hf
  unfold j27_25
  by_cases c_1 : x1 ≤ 0
  · replace hf := x_pos c_1 hf
    refine EX.pos c_1 ?_
    exact EX.uC E (gj27_42_ok H to0 to0 hf)
  · replace hf := x_neg c_1 hf
    refine EX.neg c_1 ?_
    exact EX.uC E (gj27_42_ok H to0 to0 hf)
theorem g27_ok {h : xH} {C : xC} {o0 : Option Nat} {x1 : Int32} {r : xC} (H : WH h C) (to0 : tR C o0 9) (hf : g27 o0 x1 C = some r) : EX (fn27 o0 x1 h) (fun z => z) (QC C r) := by
  have E := Ext.rfl' (C := C)
  unfold g27 at hf
  unfold fn27
  obtain ⟨a_3, ea_3, hf⟩ := x_bind hf
  have Hc_ := H.cv ea_3 to0 (by decide)
  obtain ⟨r_2, er_2, hf⟩ := x_bind hf
  obtain ⟨h_1, eh_1, H, E_⟩ := g97_ok H ea_3 to0 er_2
  refine EX.bd Hc_ ?_
  refine EX.bd eh_1 ?_
  dsimp only
  replace to0 := to0.up E_
  replace E := E.tr E_
  by_cases c_4 : x1 < 10
  · replace hf := x_pos c_4 hf
    refine EX.pos c_4 ?_
    exact EX.uC E (gj27_25_ok H to0 hf)
  · replace hf := x_neg c_4 hf
    refine EX.neg c_4 ?_
    have Hc_ := H.cv ea_3 to0 (by decide)
    obtain ⟨r_6, er_6, hf⟩ := x_bind hf
    obtain ⟨h_5, eh_5, H, E_⟩ := g97_ok H ea_3 to0 er_6
    refine EX.bd Hc_ ?_
    refine EX.bd eh_5 ?_
    dsimp only
    replace to0 := to0.up E_
    replace E := E.tr E_
    exact EX.uC E (gj27_25_ok H to0 hf)
end
