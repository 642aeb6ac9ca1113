section
theorem gj52_16_ok {h : xH} {C : xC} {a0 : Nat} {x1 : Int32} {r : xC} (H : WH h C) (ta0 : tR C (some a0) 5) (hf : gj52_16 a0 x1 C = some r) : EX (j52_16 (some a0) x1 h) (fun z => z) (QC C r) := by
  have E := Ext.rfl' (C := C)
  unfold gj52_16 at hf
  unfold j52_16
  obtain rfl := Option.some.inj hf
  exact ⟨_, rfl, H, E⟩
theorem g52_ok {h : xH} {C : xC} {o0 : Option Nat} {a0 : Nat} {x1 : Int32} {r : xC} (H : WH h C) (e0 : o0 = some a0) (ta0 : tR C o0 5) (hf : g52 a0 x1 C = some r) : EX (fn52 o0 x1 h) (fun z => z) (QC C r) := by
  subst e0
  have E := Ext.rfl' (C := C)
  unfold g52 at hf
  unfold fn52
  refine EX.bd (H.gR rfl ta0 (by decide) (by decide) (by decide)) ?_
  have t_1 := H.tyR rfl ta0 (ci := 5) (k := 0) (by decide) (by decide) (by decide)
  obtain ⟨a_4, ea_4, hf⟩ := x_bind hf
  have Hc_ := H.cv ea_4 t_1 (by decide)
  obtain ⟨r_3, er_3, hf⟩ := x_bind hf
  obtain ⟨h_2, eh_2, H, E_⟩ := g97_ok H ea_4 t_1 er_3
  refine EX.bd Hc_ ?_
  refine EX.bd eh_2 ?_
  dsimp only
  replace t_1 := t_1.up E_
  replace ta0 := ta0.up E_
  replace E := E.tr E_
  by_cases c_5 : r_3.1 = 0
  · replace hf := x_pos c_5 hf
    refine EX.pos c_5 ?_
    obtain ⟨C_6, eC_6, hf⟩ := x_bind hf
    obtain ⟨h_7, eh_7, H, E_⟩ := H.pI rfl ta0 (by decide) (by decide) rfl (show xfit .boolean (.int 1) = true by decide) eC_6
    refine EX.bd eh_7 ?_
    replace t_1 := t_1.up E_
    replace ta0 := ta0.up E_
    replace E := E.tr E_
    exact EX.uC E (gj52_16_ok H ta0 hf)
  · replace hf := x_neg c_5 hf
    refine EX.neg c_5 ?_
    exact EX.uC E (gj52_16_ok H ta0 hf)
end
section
theorem gl54_3_ok : ∀ (n : Nat) {h : xH} {C : xC} {a0 : Nat} {o1 : Option Nat} {x2 : Int32} {x3 : Int32} {x4 : Int32} {r : xC} (H : WH h C) (ta0 : tR C (some a0) 5) (to1 : tR C o1 9), gl54_3 n a0 o1 x2 x3 x4 C = some r → EX (l54_3 n (some a0) o1 x2 x3 x4 h) (fun z => z) (QC C r) := by
  intro n
  induction n with
  | zero => intros; rename_i hf; cases hf
  | succ n ih =>
    intro h C a0 o1 x2 x3 x4 r H ta0 to1 hf
    have E := Ext.rfl' (C := C)
    replace hf : ((if x3 ≤ x4 then some C else (o1).bind fun a_4 => (g96 a_4 x4 C).bind fun r_3 => (g52 a0 r_3.1 r_3.2).bind fun C_6 => gl54_3 n a0 o1 x2 x3 (x4 + 1) C_6)) = some r := hf
    unfold l54_3
    by_cases c_1 : x3 ≤ x4
    · replace hf := x_pos c_1 hf
      refine EX.pos c_1 ?_
      obtain rfl := Option.some.inj hf
      exact ⟨_, rfl, H, E⟩
    · replace hf := x_neg c_1 hf
      refine EX.neg c_1 ?_
      obtain ⟨a_4, ea_4, hf⟩ := x_bind hf
      have Hc_ := H.cv ea_4 to1 (by decide)
      obtain ⟨r_3, er_3, hf⟩ := x_bind hf
      obtain ⟨h_2, eh_2, H, E_⟩ := g96_ok H ea_4 to1 er_3
      refine EX.bd Hc_ ?_
      refine EX.bd eh_2 ?_
      dsimp only
      replace to1 := to1.up E_
      replace ta0 := ta0.up E_
      replace E := E.tr E_
      have Hc_ := H.cv rfl ta0 (by decide)
      obtain ⟨C_6, eC_6, hf⟩ := x_bind hf
      obtain ⟨h_5, eh_5, H, E_⟩ := g52_ok H rfl ta0 eC_6
      refine EX.bd Hc_ ?_
      refine EX.bd eh_5 ?_
      replace to1 := to1.up E_
      replace ta0 := ta0.up E_
      replace E := E.tr E_
      exact EX.uC E (ih H ta0 to1 hf)
theorem g54_ok {h : xH} {C : xC} {o0 : Option Nat} {a0 : Nat} {o1 : Option Nat} {x2 : Int32} {x3 : Int32} {r : xC} (H : WH h C) (e0 : o0 = some a0) (ta0 : tR C o0 5) (to1 : tR C o1 9) (hf : g54 a0 o1 x2 x3 C = some r) : EX (fn54 o0 o1 x2 x3 h) (fun z => z) (QC C r) := by
  subst e0
  have E := Ext.rfl' (C := C)
  unfold g54 at hf
  unfold fn54
  exact EX.uC E (gl54_3_ok xFuel H ta0 to1 hf)
end
section
theorem gj55_35_ok {h : xH} {C : xC} {a0 : Nat} {o1 : Option Nat} {r : xC} (H : WH h C) (ta0 : tR C (some a0) 5) (to1 : tR C o1 2) (hf : gj55_35 a0 o1 C = some r) : EX (j55_35 (some a0) o1 h) (fun z => z) (QC C r) := by
  have E := Ext.rfl' (C := C)
  unfold gj55_35 at hf
  unfold j55_35
  obtain ⟨a_1, ea_1, hf⟩ := x_bind hf
  refine EX.bd (H.gR ea_1 to1 (by decide) (by decide) (by decide)) ?_
  have t_2 := H.tyR ea_1 to1 (ci := 2) (k := 1) (by decide) (by decide) (by decide)
  refine EX.bd (H.gR ea_1 to1 (by decide) (by decide) (by decide)) ?_
  obtain ⟨a_3, ea_3, hf⟩ := x_bind hf
  refine EX.bd (H.gI ea_3 t_2 (by decide) (by decide) rfl) ?_
  have Hc_ := H.cv rfl ta0 (by decide)
  obtain ⟨C_5, eC_5, hf⟩ := x_bind hf
  obtain ⟨h_4, eh_4, H, E_⟩ := g54_ok H rfl ta0 t_2 eC_5
  refine EX.bd Hc_ ?_
  refine EX.bd eh_4 ?_
  replace t_2 := t_2.up E_
  replace to1 := to1.up E_
  replace ta0 := ta0.up E_
  replace E := E.tr E_
  obtain rfl := Option.some.inj hf
  exact ⟨_, rfl, H, E⟩
theorem g55_ok {h : xH} {C : xC} {o0 : Option Nat} {a0 : Nat} {o1 : Option Nat} {r : xC} (H : WH h C) (e0 : o0 = some a0) (ta0 : tR C o0 5) (to1 : tR C o1 2) (hf : g55 a0 o1 C = some r) : EX (fn55 o0 o1 h) (fun z => z) (QC C r) := by
  subst e0
  have E := Ext.rfl' (C := C)
  unfold g55 at hf
  unfold fn55
  obtain ⟨a_1, ea_1, hf⟩ := x_bind hf
  refine EX.bd (H.gR ea_1 to1 (by decide) (by decide) (by decide)) ?_
  have t_2 := H.tyR ea_1 to1 (ci := 2) (k := 2) (by decide) (by decide) (by decide)
  by_cases c_3 : (cR C a_1 2) = none
  · replace hf := x_pos c_3 hf
    refine EX.pos c_3 ?_
    exact EX.uC E (gj55_35_ok H ta0 to1 hf)
  · replace hf := x_neg c_3 hf
    refine EX.neg c_3 ?_
    refine EX.bd (H.gR ea_1 to1 (by decide) (by decide) (by decide)) ?_
    obtain ⟨a_4, ea_4, hf⟩ := x_bind hf
    refine EX.bd (H.gR ea_4 t_2 (by decide) (by decide) (by decide)) ?_
    have t_5 := H.tyR ea_4 t_2 (ci := 2) (k := 1) (by decide) (by decide) (by decide)
    refine EX.bd (H.gR ea_1 to1 (by decide) (by decide) (by decide)) ?_
    refine EX.bd (H.gR ea_4 t_2 (by decide) (by decide) (by decide)) ?_
    obtain ⟨a_6, ea_6, hf⟩ := x_bind hf
    refine EX.bd (H.gI ea_6 t_5 (by decide) (by decide) rfl) ?_
    have Hc_ := H.cv rfl ta0 (by decide)
    obtain ⟨C_8, eC_8, hf⟩ := x_bind hf
    obtain ⟨h_7, eh_7, H, E_⟩ := g54_ok H rfl ta0 t_5 eC_8
    refine EX.bd Hc_ ?_
    refine EX.bd eh_7 ?_
    replace t_5 := t_5.up E_
    replace to1 := to1.up E_
    replace t_2 := t_2.up E_
    replace ta0 := ta0.up E_
    replace E := E.tr E_
    have Hc_ := H.cv rfl ta0 (by decide)
    obtain ⟨C_10, eC_10, hf⟩ := x_bind hf
    obtain ⟨h_9, eh_9, H, E_⟩ := g52_ok H rfl ta0 eC_10
    refine EX.bd Hc_ ?_
    refine EX.bd eh_9 ?_
    replace t_5 := t_5.up E_
    replace to1 := to1.up E_
    replace t_2 := t_2.up E_
    replace ta0 := ta0.up E_
    replace E := E.tr E_
    exact EX.uC E (gj55_35_ok H ta0 to1 hf)
end
section
theorem g56_ok {h : xH} {C : xC} {o0 : Option Nat} {a0 : Nat} {r : xC} (H : WH h C) (e0 : o0 = some a0) (ta0 : tR C o0 5) (hf : g56 a0 C = some r) : EX (fn56 o0 h) (fun z => z) (QC C r) := by
  subst e0
  have E := Ext.rfl' (C := C)
  unfold g56 at hf
  unfold fn56
  refine EX.bd (H.gI rfl ta0 (by decide) (by decide) rfl) ?_
  refine EX.bd (H.gR rfl ta0 (by decide) (by decide) (by decide)) ?_
  have t_1 := H.tyR rfl ta0 (ci := 5) (k := 1) (by decide) (by decide) (by decide)
  obtain ⟨a_2, ea_2, hf⟩ := x_bind hf
  refine EX.bd (H.len ea_2 t_1 (by decide) (by decide)) ?_
  by_cases c_3 : (cI C a0 3) < (Int32.ofNat (cK C a_2).2)
  · replace hf := x_pos c_3 hf
    refine EX.pos c_3 ?_
    refine EX.bd (H.gR rfl ta0 (by decide) (by decide) (by decide)) ?_
    refine EX.bd (H.gI rfl ta0 (by decide) (by decide) rfl) ?_
    refine EX.bd (H.gI rfl ta0 (by decide) (by decide) rfl) ?_
    obtain ⟨C_4, eC_4, hf⟩ := x_bind hf
    obtain ⟨h_5, eh_5, H, E_⟩ := H.st (f := fun x => x) ea_2 t_1 (tg := 13) (by decide) (by decide) eC_4
    refine EX.bd eh_5 ?_
    replace ta0 := ta0.up E_
    replace t_1 := t_1.up E_
    replace E := E.tr E_
    refine EX.bd (H.gI rfl ta0 (by decide) (by decide) rfl) ?_
    obtain ⟨C_6, eC_6, hf⟩ := x_bind hf
    obtain ⟨h_7, eh_7, H, E_⟩ := H.pI rfl ta0 (by decide) (by decide) rfl (xfit_int _) eC_6
    refine EX.bd eh_7 ?_
    replace ta0 := ta0.up E_
    replace t_1 := t_1.up E_
    replace E := E.tr E_
    refine EX.bd (H.gI rfl ta0 (by decide) (by decide) rfl) ?_
    refine EX.bd (H.gR rfl ta0 (by decide) (by decide) (by decide)) ?_
    have t_8 := H.tyR rfl ta0 (ci := 5) (k := 0) (by decide) (by decide) (by decide)
    obtain ⟨a_9, ea_9, hf⟩ := x_bind hf
    refine EX.bd (H.gI ea_9 t_8 (by decide) (by decide) rfl) ?_
    refine EX.bd (H.gI rfl ta0 (by decide) (by decide) rfl) ?_
    obtain ⟨C_10, eC_10, hf⟩ := x_bind hf
    obtain ⟨h_11, eh_11, H, E_⟩ := H.pI rfl ta0 (by decide) (by decide) rfl (xfit_int _) eC_10
    refine EX.bd eh_11 ?_
    replace ta0 := ta0.up E_
    replace t_1 := t_1.up E_
    replace t_8 := t_8.up E_
    replace E := E.tr E_
    have Hc_ := H.cv rfl ta0 (by decide)
    obtain ⟨C_13, eC_13, hf⟩ := x_bind hf
    obtain ⟨h_12, eh_12, H, E_⟩ := g52_ok H rfl ta0 eC_13
    refine EX.bd Hc_ ?_
    refine EX.bd eh_12 ?_
    replace ta0 := ta0.up E_
    replace t_1 := t_1.up E_
    replace t_8 := t_8.up E_
    replace E := E.tr E_
    refine EX.bd (H.gR rfl ta0 (by decide) (by decide) (by decide)) ?_
    have t_14 := H.tyR rfl ta0 (ci := 5) (k := 0) (by decide) (by decide) (by decide)
    obtain ⟨a_15, ea_15, hf⟩ := x_bind hf
    refine EX.bd (H.gI ea_15 t_14 (by decide) (by decide) rfl) ?_
    obtain ⟨C_16, eC_16, hf⟩ := x_bind hf
    obtain ⟨h_17, eh_17, H, E_⟩ := H.pI rfl ta0 (by decide) (by decide) rfl (xfit_int _) eC_16
    refine EX.bd eh_17 ?_
    replace t_14 := t_14.up E_
    replace ta0 := ta0.up E_
    replace t_1 := t_1.up E_
    replace t_8 := t_8.up E_
    replace E := E.tr E_
    obtain rfl := Option.some.inj hf
    exact ⟨_, rfl, H, E⟩
  · replace hf := x_neg c_3 hf
    refine EX.neg c_3 ?_
    obtain ⟨C_18, eC_18, hf⟩ := x_bind hf
    obtain ⟨h_19, eh_19, H, E_⟩ := H.pI rfl ta0 (by decide) (by decide) rfl (show xfit .boolean (.int 1) = true by decide) eC_18
    refine EX.bd eh_19 ?_
    replace ta0 := ta0.up E_
    replace t_1 := t_1.up E_
    replace E := E.tr E_
    obtain rfl := Option.some.inj hf
    exact ⟨_, rfl, H, E⟩
end
section
theorem gj57_25_ok {h : xH} {C : xC} {a0 : Nat} {x1 : Int32} {s0 : Option Nat} {r : (Option Nat × xC)} (H : WH h C) (ta0 : tR C (some a0) 5) (ts0 : tR C s0 2) (hf : gj57_25 a0 x1 s0 C = some r) : EX (j57_25 (some a0) x1 s0 h) (fun z => (r.1, z)) (QR 2 C r) := by
  have E := Ext.rfl' (C := C)
  unfold gj57_25 at hf
  unfold j57_25
  obtain rfl := Option.some.inj hf
  exact ⟨_, rfl, H, E, ts0⟩
theorem gj57_13_ok {h : xH} {C : xC} {a0 : Nat} {x1 : Int32} {r : (Option Nat × xC)} (H : WH h C) (ta0 : tR C (some a0) 5) (hf : gj57_13 a0 x1 C = some r) : EX (j57_13 (some a0) x1 h) (fun z => (r.1, z)) (QR 2 C r) := by
  have E := Ext.rfl' (C := C)
  unfold gj57_13 at hf
  unfold j57_13
  exact EX.uR E (gj57_25_ok H ta0 tR_none hf)
theorem g57_ok {h : xH} {C : xC} {o0 : Option Nat} {a0 : Nat} {x1 : Int32} {r : (Option Nat × xC)} (H : WH h C) (e0 : o0 = some a0) (ta0 : tR C o0 5) (hf : g57 a0 x1 C = some r) : EX (fn57 o0 x1 h) (fun z => (r.1, z)) (QR 2 C r) := by
  subst e0
  have E := Ext.rfl' (C := C)
  unfold g57 at hf
  unfold fn57
  by_cases c_1 : x1 < 1
  · replace hf := x_pos c_1 hf
    refine EX.pos c_1 ?_
    exact EX.uR E (gj57_13_ok H ta0 hf)
  · replace hf := x_neg c_1 hf
    refine EX.neg c_1 ?_
    refine EX.bd (H.gI rfl ta0 (by decide) (by decide) rfl) ?_
    by_cases c_2 : x1 ≤ (cI C a0 4)
    · replace hf := x_pos c_2 hf
      refine EX.pos c_2 ?_
      refine EX.bd (H.gR rfl ta0 (by decide) (by decide) (by decide)) ?_
      have t_3 := H.tyR rfl ta0 (ci := 5) (k := 2) (by decide) (by decide) (by decide)
      obtain ⟨a_5, ea_5, hf⟩ := x_bind hf
      obtain ⟨o_4, eo_4, hf⟩ := x_bind hf
      refine EX.bd (H.lR ea_5 t_3 (by decide) (by decide) eo_4) ?_
      have t_6 := H.tL ea_5 t_3 (ci := 16) (by decide) (by decide) eo_4
      exact EX.uR E (gj57_25_ok H ta0 t_6 hf)
    · replace hf := x_neg c_2 hf
      refine EX.neg c_2 ?_
      exact EX.uR E (gj57_13_ok H ta0 hf)
end
section
theorem gj101_17_ok {h : xH} {C : xC} {a0 : Nat} {x1 : Int32} {r : xC} (H : WH h C) (ta0 : tR C (some a0) 9) (hf : gj101_17 a0 x1 C = some r) : EX (j101_17 (some a0) x1 h) (fun z => z) (QC C r) := by
  have E := Ext.rfl' (C := C)
  unfold gj101_17 at hf
  unfold j101_17
  obtain rfl := Option.some.inj hf
  exact ⟨_, rfl, H, E⟩
theorem g101_ok {h : xH} {C : xC} {o0 : Option Nat} {a0 : Nat} {x1 : Int32} {r : xC} (H : WH h C) (e0 : o0 = some a0) (ta0 : tR C o0 9) (hf : g101 a0 x1 C = some r) : EX (fn101 o0 x1 h) (fun z => z) (QC C r) := by
  subst e0
  have E := Ext.rfl' (C := C)
  unfold g101 at hf
  unfold fn101
  by_cases c_1 : x1 < 0
  · replace hf := x_pos c_1 hf
    refine EX.pos c_1 ?_
    exact EX.uC E (gj101_17_ok H ta0 hf)
  · replace hf := x_neg c_1 hf
    refine EX.neg c_1 ?_
    refine EX.bd (H.gI rfl ta0 (by decide) (by decide) rfl) ?_
    by_cases c_2 : (cI C a0 1) ≤ x1
    · replace hf := x_pos c_2 hf
      refine EX.pos c_2 ?_
      exact EX.uC E (gj101_17_ok H ta0 hf)
    · replace hf := x_neg c_2 hf
      refine EX.neg c_2 ?_
      obtain ⟨C_3, eC_3, hf⟩ := x_bind hf
      obtain ⟨h_4, eh_4, H, E_⟩ := H.pI rfl ta0 (by decide) (by decide) rfl (xfit_int _) eC_3
      refine EX.bd eh_4 ?_
      replace ta0 := ta0.up E_
      replace E := E.tr E_
      exact EX.uC E (gj101_17_ok H ta0 hf)
end
section
theorem gj26_78_ok {k13 : Nat → Option Nat → Int32 → xC → Option xC} {f13 : Option Nat → Option Nat → Int32 → xH → Option xH} (hk13 : ∀ {h : xH} {C : xC} {a0 : Nat} {o1 : Option Nat} {x2 : Int32} {r : xC}, WH h C → tR C (some a0) 3 → tR C o1 5 → k13 a0 o1 x2 C = some r → EX (f13 (some a0) o1 x2 h) (fun z => z) (QC C r)) {h : xH} {C : xC} {a0 : Nat} {o1 : Option Nat} {x2 : Int32} {o3 : Option Nat} {r : xC} (H : WH h C) (ta0 : tR C (some a0) 3) (to1 : tR C o1 5) (to3 : tR C o3 2) (hf : gj26_78 k13 a0 o1 x2 o3 C = some r) : EX (j26_78 f13 (some a0) o1 x2 o3 h) (fun z => z) (QC C r) := by
  have E := Ext.rfl' (C := C)
  unfold gj26_78 at hf
  unfold j26_78
  exact EX.uC E (hk13 H ta0 to1 hf)
theorem gl26_13_ok : ∀ (n : Nat) {h : xH} {C : xC} {a0 : Nat} {o1 : Option Nat} {x2 : Int32} {r : xC} (H : WH h C) (ta0 : tR C (some a0) 3) (to1 : tR C o1 5), gl26_13 n a0 o1 x2 C = some r → EX (l26_13 n (some a0) o1 x2 h) (fun z => z) (QC C r) := by
  intro n
  induction n with
  | zero => intros; rename_i hf; cases hf
  | succ n ih =>
    intro h C a0 o1 x2 r H ta0 to1 hf
    have E := Ext.rfl' (C := C)
    replace hf : ((o1).bind fun a_1 => (if (cI C a_1 4) < x2 then some C else (g57 a_1 x2 C).bind fun r_4 => (if r_4.1 = none then gj26_78 (gl26_13 n) a0 o1 x2 r_4.1 r_4.2 else (cR r_4.2 a0 2).bind fun a_10 => (g101 a_10 0 r_4.2).bind fun C_9 => (g27 (cR C_9 a0 2) x2 C_9).bind fun C_13 => (cR C_13 a0 2).bind fun a_15 => (g54 a_1 (cR C_13 a0 2) 0 (cI C_13 a_15 1) C_13).bind fun C_17 => (g52 a_1 32 C_17).bind fun C_19 => (g55 a_1 r_4.1 C_19).bind fun C_21 => (g56 a_1 C_21).bind fun C_23 => gj26_78 (gl26_13 n) a0 o1 x2 r_4.1 C_23))) = some r := hf
    unfold l26_13
    obtain ⟨a_1, ea_1, hf⟩ := x_bind hf
    refine EX.bd (H.gI ea_1 to1 (by decide) (by decide) rfl) ?_
    by_cases c_2 : (cI C a_1 4) < x2
    · replace hf := x_pos c_2 hf
      refine EX.pos c_2 ?_
      obtain rfl := Option.some.inj hf
      exact ⟨_, rfl, H, E⟩
    · replace hf := x_neg c_2 hf
      refine EX.neg c_2 ?_
      have Hc_ := H.cv ea_1 to1 (by decide)
      obtain ⟨r_4, er_4, hf⟩ := x_bind hf
      obtain ⟨h_3, eh_3, H, E_, t_5⟩ := g57_ok H ea_1 to1 er_4
      refine EX.bd Hc_ ?_
      refine EX.bd eh_3 ?_
      dsimp only
      replace to1 := to1.up E_
      replace ta0 := ta0.up E_
      replace E := E.tr E_
      by_cases c_6 : r_4.1 = none
      · replace hf := x_pos c_6 hf
        refine EX.pos c_6 ?_
        exact EX.uC E (gj26_78_ok (k13 := (gl26_13 n)) (f13 := (l26_13 n)) ih H ta0 to1 t_5 hf)
      · replace hf := x_neg c_6 hf
        refine EX.neg c_6 ?_
        refine EX.bd (H.gR rfl ta0 (by decide) (by decide) (by decide)) ?_
        have t_7 := H.tyR rfl ta0 (ci := 3) (k := 2) (by decide) (by decide) (by decide)
        obtain ⟨a_10, ea_10, hf⟩ := x_bind hf
        have Hc_ := H.cv ea_10 t_7 (by decide)
        obtain ⟨C_9, eC_9, hf⟩ := x_bind hf
        obtain ⟨h_8, eh_8, H, E_⟩ := g101_ok H ea_10 t_7 eC_9
        refine EX.bd Hc_ ?_
        refine EX.bd eh_8 ?_
        replace to1 := to1.up E_
        replace ta0 := ta0.up E_
        replace t_5 := t_5.up E_
        replace t_7 := t_7.up E_
        replace E := E.tr E_
        refine EX.bd (H.gR rfl ta0 (by decide) (by decide) (by decide)) ?_
        have t_11 := H.tyR rfl ta0 (ci := 3) (k := 2) (by decide) (by decide) (by decide)
        obtain ⟨C_13, eC_13, hf⟩ := x_bind hf
        obtain ⟨h_12, eh_12, H, E_⟩ := g27_ok H t_11 eC_13
        refine EX.bd eh_12 ?_
        replace to1 := to1.up E_
        replace ta0 := ta0.up E_
        replace t_5 := t_5.up E_
        replace t_7 := t_7.up E_
        replace E := E.tr E_
        refine EX.bd (H.gR rfl ta0 (by decide) (by decide) (by decide)) ?_
        have t_14 := H.tyR rfl ta0 (ci := 3) (k := 2) (by decide) (by decide) (by decide)
        refine EX.bd (H.gR rfl ta0 (by decide) (by decide) (by decide)) ?_
        obtain ⟨a_15, ea_15, hf⟩ := x_bind hf
        refine EX.bd (H.gI ea_15 t_14 (by decide) (by decide) rfl) ?_
        have Hc_ := H.cv ea_1 to1 (by decide)
        obtain ⟨C_17, eC_17, hf⟩ := x_bind hf
        obtain ⟨h_16, eh_16, H, E_⟩ := g54_ok H ea_1 to1 t_14 eC_17
        refine EX.bd Hc_ ?_
        refine EX.bd eh_16 ?_
        replace t_5 := t_5.up E_
        replace ta0 := ta0.up E_
        replace t_14 := t_14.up E_
        replace t_7 := t_7.up E_
        replace to1 := to1.up E_
        replace E := E.tr E_
        have Hc_ := H.cv ea_1 to1 (by decide)
        obtain ⟨C_19, eC_19, hf⟩ := x_bind hf
        obtain ⟨h_18, eh_18, H, E_⟩ := g52_ok H ea_1 to1 eC_19
        refine EX.bd Hc_ ?_
        refine EX.bd eh_18 ?_
        replace t_5 := t_5.up E_
        replace ta0 := ta0.up E_
        replace t_14 := t_14.up E_
        replace t_7 := t_7.up E_
        replace to1 := to1.up E_
        replace E := E.tr E_
        have Hc_ := H.cv ea_1 to1 (by decide)
        obtain ⟨C_21, eC_21, hf⟩ := x_bind hf
        obtain ⟨h_20, eh_20, H, E_⟩ := g55_ok H ea_1 to1 t_5 eC_21
        refine EX.bd Hc_ ?_
        refine EX.bd eh_20 ?_
        replace t_5 := t_5.up E_
        replace ta0 := ta0.up E_
        replace t_14 := t_14.up E_
        replace t_7 := t_7.up E_
        replace to1 := to1.up E_
        replace E := E.tr E_
        have Hc_ := H.cv ea_1 to1 (by decide)
        obtain ⟨C_23, eC_23, hf⟩ := x_bind hf
        obtain ⟨h_22, eh_22, H, E_⟩ := g56_ok H ea_1 to1 eC_23
        refine EX.bd Hc_ ?_
        refine EX.bd eh_22 ?_
        replace t_5 := t_5.up E_
        replace ta0 := ta0.up E_
        replace t_14 := t_14.up E_
        replace t_7 := t_7.up E_
        replace to1 := to1.up E_
        replace E := E.tr E_
        exact EX.uC E (gj26_78_ok (k13 := (gl26_13 n)) (f13 := (l26_13 n)) ih H ta0 to1 t_5 hf)
theorem gj26_11_ok {h : xH} {C : xC} {a0 : Nat} {o1 : Option Nat} {r : xC} (H : WH h C) (ta0 : tR C (some a0) 3) (to1 : tR C o1 5) (hf : gj26_11 a0 o1 C = some r) : EX (j26_11 (some a0) o1 h) (fun z => z) (QC C r) := by
  have E := Ext.rfl' (C := C)
  unfold gj26_11 at hf
  unfold j26_11
  exact EX.uC E (gl26_13_ok xFuel H ta0 to1 hf)
theorem g26_ok {h : xH} {C : xC} {o0 : Option Nat} {a0 : Nat} {o1 : Option Nat} {r : xC} (H : WH h C) (e0 : o0 = some a0) (ta0 : tR C o0 3) (to1 : tR C o1 5) (hf : g26 a0 o1 C = some r) : EX (fn26 o0 o1 h) (fun z => z) (QC C r) := by
  subst e0
  have E := Ext.rfl' (C := C)
  unfold g26 at hf
  unfold fn26
  obtain ⟨a_1, ea_1, hf⟩ := x_bind hf
  refine EX.bd (H.gI ea_1 to1 (by decide) (by decide) rfl) ?_
  by_cases c_2 : (cI C a_1 4) ≤ 0
  · replace hf := x_pos c_2 hf
    refine EX.pos c_2 ?_
    exact EX.uC E (gj26_11_ok H ta0 to1 hf)
  · replace hf := x_neg c_2 hf
    refine EX.neg c_2 ?_
    have Hc_ := H.cv ea_1 to1 (by decide)
    obtain ⟨C_4, eC_4, hf⟩ := x_bind hf
    obtain ⟨h_3, eh_3, H, E_⟩ := g56_ok H ea_1 to1 eC_4
    refine EX.bd Hc_ ?_
    refine EX.bd eh_3 ?_
    replace to1 := to1.up E_
    replace ta0 := ta0.up E_
    replace E := E.tr E_
    exact EX.uC E (gj26_11_ok H ta0 to1 hf)
end
section
theorem gj31_40_ok {h : xH} {C : xC} {a0 : Nat} {r : xC} (H : WH h C) (ta0 : tR C (some a0) 3) (hf : gj31_40 a0 C = some r) : EX (j31_40 (some a0) h) (fun z => z) (QC C r) := by
  have E := Ext.rfl' (C := C)
  unfold gj31_40 at hf
  unfold j31_40
  obtain rfl := Option.some.inj hf
  exact ⟨_, rfl, H, E⟩
theorem g31_ok {h : xH} {C : xC} {o0 : Option Nat} {a0 : Nat} {r : xC} (H : WH h C) (e0 : o0 = some a0) (ta0 : tR C o0 3) (hf : g31 a0 C = some r) : EX (fn31 o0 h) (fun z => z) (QC C r) := by
  subst e0
  have E := Ext.rfl' (C := C)
  unfold g31 at hf
  unfold fn31
  refine EX.bd (H.gI rfl ta0 (by decide) (by decide) rfl) ?_
  refine EX.bd (H.gR rfl ta0 (by decide) (by decide) (by decide)) ?_
  have t_1 := H.tyR rfl ta0 (ci := 3) (k := 3) (by decide) (by decide) (by decide)
  obtain ⟨a_2, ea_2, hf⟩ := x_bind hf
  refine EX.bd (H.len ea_2 t_1 (by decide) (by decide)) ?_
  by_cases c_3 : (Int32.ofNat (cK C a_2).2) ≤ ((cI C a0 4) + 1)
  · replace hf := x_pos c_3 hf
    refine EX.pos c_3 ?_
    exact EX.uC E (gj31_40_ok H ta0 hf)
  · replace hf := x_neg c_3 hf
    refine EX.neg c_3 ?_
    refine EX.bd (H.gR rfl ta0 (by decide) (by decide) (by decide)) ?_
    refine EX.bd (H.gI rfl ta0 (by decide) (by decide) rfl) ?_
    refine EX.bd (H.gR rfl ta0 (by decide) (by decide) (by decide)) ?_
    have t_4 := H.tyR rfl ta0 (ci := 3) (k := 2) (by decide) (by decide) (by decide)
    obtain ⟨a_5, ea_5, hf⟩ := x_bind hf
    refine EX.bd (H.gI ea_5 t_4 (by decide) (by decide) rfl) ?_
    obtain ⟨C_6, eC_6, hf⟩ := x_bind hf
    obtain ⟨h_7, eh_7, H, E_⟩ := H.st (f := fun x => x) ea_2 t_1 (tg := 13) (by decide) (by decide) eC_6
    refine EX.bd eh_7 ?_
    replace ta0 := ta0.up E_
    replace t_4 := t_4.up E_
    replace t_1 := t_1.up E_
    replace E := E.tr E_
    refine EX.bd (H.gI rfl ta0 (by decide) (by decide) rfl) ?_
    obtain ⟨C_8, eC_8, hf⟩ := x_bind hf
    obtain ⟨h_9, eh_9, H, E_⟩ := H.pI rfl ta0 (by decide) (by decide) rfl (xfit_int _) eC_8
    refine EX.bd eh_9 ?_
    replace ta0 := ta0.up E_
    replace t_4 := t_4.up E_
    replace t_1 := t_1.up E_
    replace E := E.tr E_
    exact EX.uC E (gj31_40_ok H ta0 hf)
end
section
theorem gj32_28_ok {h : xH} {C : xC} {a0 : Nat} {r : xC} (H : WH h C) (ta0 : tR C (some a0) 3) (hf : gj32_28 a0 C = some r) : EX (j32_28 (some a0) h) (fun z => z) (QC C r) := by
  have E := Ext.rfl' (C := C)
  unfold gj32_28 at hf
  unfold j32_28
  obtain rfl := Option.some.inj hf
  exact ⟨_, rfl, H, E⟩
theorem g32_ok {h : xH} {C : xC} {o0 : Option Nat} {a0 : Nat} {r : xC} (H : WH h C) (e0 : o0 = some a0) (ta0 : tR C o0 3) (hf : g32 a0 C = some r) : EX (fn32 o0 h) (fun z => z) (QC C r) := by
  subst e0
  have E := Ext.rfl' (C := C)
  unfold g32 at hf
  unfold fn32
  refine EX.bd (H.gI rfl ta0 (by decide) (by decide) rfl) ?_
  refine EX.bd (H.gR rfl ta0 (by decide) (by decide) (by decide)) ?_
  have t_1 := H.tyR rfl ta0 (ci := 3) (k := 3) (by decide) (by decide) (by decide)
  obtain ⟨a_2, ea_2, hf⟩ := x_bind hf
  refine EX.bd (H.len ea_2 t_1 (by decide) (by decide)) ?_
  by_cases c_3 : (Int32.ofNat (cK C a_2).2) ≤ (cI C a0 4)
  · replace hf := x_pos c_3 hf
    refine EX.pos c_3 ?_
    exact EX.uC E (gj32_28_ok H ta0 hf)
  · replace hf := x_neg c_3 hf
    refine EX.neg c_3 ?_
    refine EX.bd (H.gR rfl ta0 (by decide) (by decide) (by decide)) ?_
    refine EX.bd (H.gI rfl ta0 (by decide) (by decide) rfl) ?_
    refine EX.bd (H.gR rfl ta0 (by decide) (by decide) (by decide)) ?_
    have t_4 := H.tyR rfl ta0 (ci := 3) (k := 2) (by decide) (by decide) (by decide)
    obtain ⟨a_5, ea_5, hf⟩ := x_bind hf
    refine EX.bd (H.gI ea_5 t_4 (by decide) (by decide) rfl) ?_
    obtain ⟨C_6, eC_6, hf⟩ := x_bind hf
    obtain ⟨h_7, eh_7, H, E_⟩ := H.st (f := fun x => x) ea_2 t_1 (tg := 13) (by decide) (by decide) eC_6
    refine EX.bd eh_7 ?_
    replace ta0 := ta0.up E_
    replace t_4 := t_4.up E_
    replace t_1 := t_1.up E_
    replace E := E.tr E_
    exact EX.uC E (gj32_28_ok H ta0 hf)
end
section
theorem gj58_46_ok {h : xH} {C : xC} {a0 : Nat} {o1 : Option Nat} {x2 : Int32} {r : (Int32 × xC)} (H : WH h C) (ta0 : tR C (some a0) 5) (to1 : tR C o1 2) (hf : gj58_46 a0 o1 x2 C = some r) : EX (j58_46 (some a0) o1 x2 h) (fun z => (r.1, z)) (QC C r.2) := by
  have E := Ext.rfl' (C := C)
  unfold gj58_46 at hf
  unfold j58_46
  obtain rfl := Option.some.inj hf
  exact ⟨_, rfl, H, E⟩
theorem gl58_2_ok : ∀ (n : Nat) {h : xH} {C : xC} {a0 : Nat} {o1 : Option Nat} {x2 : Int32} {r : (Int32 × xC)} (H : WH h C) (ta0 : tR C (some a0) 5) (to1 : tR C o1 2), gl58_2 n a0 o1 x2 C = some r → EX (l58_2 n (some a0) o1 x2 h) (fun z => (r.1, z)) (QC C r.2) := by
  intro n
  induction n with
  | zero => intros; rename_i hf; cases hf
  | succ n ih =>
    intro h C a0 o1 x2 r H ta0 to1 hf
    have E := Ext.rfl' (C := C)
    replace hf : ((if (cI C a0 4) ≤ x2 then (if o1 = none then gj58_46 a0 o1 x2 C else (cR C a0 2).bind fun a_4 => (if (cI C a0 4) < (Int32.ofNat (cK C a_4).2) then (cSR C a_4 (cI C a0 4) o1).bind fun C_6 => (some (uI C_6 a0 4 ((cI C_6 a0 4) + 1))).bind fun C_8 => some (cI C_8 a0 4, C_8) else gj58_46 a0 o1 x2 C)) else (cR C a0 2).bind fun a_12 => (cLR C a_12 x2).bind fun o_11 => (if o_11 = o1 then some (x2 + 1, C) else gl58_2 n a0 o1 (x2 + 1) C))) = some r := hf
    unfold l58_2
    refine EX.bd (H.gI rfl ta0 (by decide) (by decide) rfl) ?_
    by_cases c_1 : (cI C a0 4) ≤ x2
    · replace hf := x_pos c_1 hf
      refine EX.pos c_1 ?_
      by_cases c_2 : o1 = none
      · replace hf := x_pos c_2 hf
        refine EX.pos c_2 ?_
        exact EX.uC E (gj58_46_ok H ta0 to1 hf)
      · replace hf := x_neg c_2 hf
        refine EX.neg c_2 ?_
        refine EX.bd (H.gI rfl ta0 (by decide) (by decide) rfl) ?_
        refine EX.bd (H.gR rfl ta0 (by decide) (by decide) (by decide)) ?_
        have t_3 := H.tyR rfl ta0 (ci := 5) (k := 2) (by decide) (by decide) (by decide)
        obtain ⟨a_4, ea_4, hf⟩ := x_bind hf
        refine EX.bd (H.len ea_4 t_3 (by decide) (by decide)) ?_
        by_cases c_5 : (cI C a0 4) < (Int32.ofNat (cK C a_4).2)
        · replace hf := x_pos c_5 hf
          refine EX.pos c_5 ?_
          refine EX.bd (H.gR rfl ta0 (by decide) (by decide) (by decide)) ?_
          refine EX.bd (H.gI rfl ta0 (by decide) (by decide) rfl) ?_
          obtain ⟨C_6, eC_6, hf⟩ := x_bind hf
          obtain ⟨h_7, eh_7, H, E_⟩ := H.sR ea_4 t_3 (tg := 16) (by decide) (by decide) to1 eC_6
          refine EX.bd eh_7 ?_
          replace to1 := to1.up E_
          replace ta0 := ta0.up E_
          replace t_3 := t_3.up E_
          replace E := E.tr E_
          refine EX.bd (H.gI rfl ta0 (by decide) (by decide) rfl) ?_
          obtain ⟨C_8, eC_8, hf⟩ := x_bind hf
          obtain ⟨h_9, eh_9, H, E_⟩ := H.pI rfl ta0 (by decide) (by decide) rfl (xfit_int _) eC_8
          refine EX.bd eh_9 ?_
          replace to1 := to1.up E_
          replace ta0 := ta0.up E_
          replace t_3 := t_3.up E_
          replace E := E.tr E_
          refine EX.bd (H.gI rfl ta0 (by decide) (by decide) rfl) ?_
          obtain rfl := Option.some.inj hf
          exact ⟨_, rfl, H, E⟩
        · replace hf := x_neg c_5 hf
          refine EX.neg c_5 ?_
          exact EX.uC E (gj58_46_ok H ta0 to1 hf)
    · replace hf := x_neg c_1 hf
      refine EX.neg c_1 ?_
      refine EX.bd (H.gR rfl ta0 (by decide) (by decide) (by decide)) ?_
      have t_10 := H.tyR rfl ta0 (ci := 5) (k := 2) (by decide) (by decide) (by decide)
      obtain ⟨a_12, ea_12, hf⟩ := x_bind hf
      obtain ⟨o_11, eo_11, hf⟩ := x_bind hf
      refine EX.bd (H.lR ea_12 t_10 (by decide) (by decide) eo_11) ?_
      have t_13 := H.tL ea_12 t_10 (ci := 16) (by decide) (by decide) eo_11
      by_cases c_14 : o_11 = o1
      · replace hf := x_pos c_14 hf
        refine EX.pos c_14 ?_
        obtain rfl := Option.some.inj hf
        exact ⟨_, rfl, H, E⟩
      · replace hf := x_neg c_14 hf
        refine EX.neg c_14 ?_
        exact EX.uC E (ih H ta0 to1 hf)
theorem g58_ok {h : xH} {C : xC} {o0 : Option Nat} {a0 : Nat} {o1 : Option Nat} {r : (Int32 × xC)} (H : WH h C) (e0 : o0 = some a0) (ta0 : tR C o0 5) (to1 : tR C o1 2) (hf : g58 a0 o1 C = some r) : EX (fn58 o0 o1 h) (fun z => (r.1, z)) (QC C r.2) := by
  subst e0
  have E := Ext.rfl' (C := C)
  unfold g58 at hf
  unfold fn58
  exact EX.uC E (gl58_2_ok xFuel H ta0 to1 hf)
end
section
theorem gl99_2_ok : ∀ (n : Nat) {h : xH} {C : xC} {a0 : Nat} {q1 : Nat} {x2 : Int32} {r : xC} (H : WH h C) (ta0 : tR C (some a0) 9), gl99_2 n a0 q1 x2 C = some r → EX (l99_2 n (some a0) q1 x2 h) (fun z => z) (QC C r) := by
  intro n
  induction n with
  | zero => intros; rename_i hf; cases hf
  | succ n ih =>
    intro h C a0 q1 x2 r H ta0 hf
    have E := Ext.rfl' (C := C)
    replace hf : ((xqL q1).bind fun v_1 => (if v_1 ≤ x2 then some C else (xqC q1 x2).bind fun v_3 => (g97 a0 v_3 C).bind fun r_5 => gl99_2 n a0 q1 (x2 + 1) r_5.2)) = some r := hf
    unfold l99_2
    obtain ⟨v_1, ev_1, hf⟩ := x_bind hf
    refine EX.bd ev_1 ?_
    by_cases c_2 : v_1 ≤ x2
    · replace hf := x_pos c_2 hf
      refine EX.pos c_2 ?_
      obtain rfl := Option.some.inj hf
      exact ⟨_, rfl, H, E⟩
    · replace hf := x_neg c_2 hf
      refine EX.neg c_2 ?_
      obtain ⟨v_3, ev_3, hf⟩ := x_bind hf
      refine EX.bd ev_3 ?_
      have Hc_ := H.cv rfl ta0 (by decide)
      obtain ⟨r_5, er_5, hf⟩ := x_bind hf
      obtain ⟨h_4, eh_4, H, E_⟩ := g97_ok H rfl ta0 er_5
      refine EX.bd Hc_ ?_
      refine EX.bd eh_4 ?_
      dsimp only
      replace ta0 := ta0.up E_
      replace E := E.tr E_
      exact EX.uC E (ih H ta0 hf)
theorem g99_ok {h : xH} {C : xC} {o0 : Option Nat} {a0 : Nat} {q1 : Nat} {r : xC} (H : WH h C) (e0 : o0 = some a0) (ta0 : tR C o0 9) (hf : g99 a0 q1 C = some r) : EX (fn99 o0 q1 h) (fun z => z) (QC C r) := by
  subst e0
  have E := Ext.rfl' (C := C)
  unfold g99 at hf
  unfold fn99
  exact EX.uC E (gl99_2_ok xFuel H ta0 hf)
end
section
theorem g139_ok {h : xH} {C : xC} {x0 : Int32} {r : (Nat × xC)} (H : WH h C) (hf : g139 x0 C = some r) : EX (fn139 x0 h) (fun z => (r.1, z)) (QC C r.2) := by
  have E := Ext.rfl' (C := C)
  unfold g139 at hf
  unfold fn139
  by_cases c_1 : x0 = 2
  · replace hf := x_pos c_1 hf
    refine EX.pos c_1 ?_
    obtain rfl := Option.some.inj hf
    exact ⟨_, rfl, H, E⟩
  · replace hf := x_neg c_1 hf
    refine EX.neg c_1 ?_
    by_cases c_2 : x0 = 3
    · replace hf := x_pos c_2 hf
      refine EX.pos c_2 ?_
      obtain rfl := Option.some.inj hf
      exact ⟨_, rfl, H, E⟩
    · replace hf := x_neg c_2 hf
      refine EX.neg c_2 ?_
      by_cases c_3 : x0 = 4
      · replace hf := x_pos c_3 hf
        refine EX.pos c_3 ?_
        obtain rfl := Option.some.inj hf
        exact ⟨_, rfl, H, E⟩
      · replace hf := x_neg c_3 hf
        refine EX.neg c_3 ?_
        by_cases c_4 : x0 = 5
        · replace hf := x_pos c_4 hf
          refine EX.pos c_4 ?_
          obtain rfl := Option.some.inj hf
          exact ⟨_, rfl, H, E⟩
        · replace hf := x_neg c_4 hf
          refine EX.neg c_4 ?_
          by_cases c_5 : x0 = 6
          · replace hf := x_pos c_5 hf
            refine EX.pos c_5 ?_
            obtain rfl := Option.some.inj hf
            exact ⟨_, rfl, H, E⟩
          · replace hf := x_neg c_5 hf
            refine EX.neg c_5 ?_
            obtain rfl := Option.some.inj hf
            exact ⟨_, rfl, H, E⟩
end
section
theorem gj30_74_ok {h : xH} {C : xC} {a0 : Nat} {o1 : Option Nat} {o2 : Option Nat} {o3 : Option Nat} {r : xC} (H : WH h C) (ta0 : tR C (some a0) 3) (to1 : tR C o1 5) (to2 : tR C o2 0) (to3 : tR C o3 9) (hf : gj30_74 a0 o1 o2 o3 C = some r) : EX (j30_74 (some a0) o1 o2 o3 h) (fun z => z) (QC C r) := by
  have E := Ext.rfl' (C := C)
  unfold gj30_74 at hf
  unfold j30_74
  have Hc_ := H.cv rfl ta0 (by decide)
  obtain ⟨C_2, eC_2, hf⟩ := x_bind hf
  obtain ⟨h_1, eh_1, H, E_⟩ := g32_ok H rfl ta0 eC_2
  refine EX.bd Hc_ ?_
  refine EX.bd eh_1 ?_
  replace to1 := to1.up E_
  replace ta0 := ta0.up E_
  replace to3 := to3.up E_
  replace to2 := to2.up E_
  replace E := E.tr E_
  obtain rfl := Option.some.inj hf
  exact ⟨_, rfl, H, E⟩
theorem gj30_52_ok {h : xH} {C : xC} {a0 : Nat} {o1 : Option Nat} {o2 : Option Nat} {o3 : Option Nat} {r : xC} (H : WH h C) (ta0 : tR C (some a0) 3) (to1 : tR C o1 5) (to2 : tR C o2 0) (to3 : tR C o3 9) (hf : gj30_52 a0 o1 o2 o3 C = some r) : EX (j30_52 (some a0) o1 o2 o3 h) (fun z => z) (QC C r) := by
  have E := Ext.rfl' (C := C)
  unfold gj30_52 at hf
  unfold j30_52
  obtain ⟨a_3, ea_3, hf⟩ := x_bind hf
  have Hc_ := H.cv ea_3 to2 (by decide)
  obtain ⟨r_2, er_2, hf⟩ := x_bind hf
  obtain ⟨h_1, eh_1, H, E_⟩ := g1_ok H ea_3 to2 er_2
  refine EX.bd Hc_ ?_
  refine EX.bd eh_1 ?_
  dsimp only
  replace to1 := to1.up E_
  replace ta0 := ta0.up E_
  replace to3 := to3.up E_
  replace to2 := to2.up E_
  replace E := E.tr E_
  by_cases c_4 : r_2.1 = 0
  · replace hf := x_pos c_4 hf
    refine EX.pos c_4 ?_
    exact EX.uC E (gj30_74_ok H ta0 to1 to2 to3 hf)
  · replace hf := x_neg c_4 hf
    refine EX.neg c_4 ?_
    refine EX.bd (H.gR rfl ta0 (by decide) (by decide) (by decide)) ?_
    have t_5 := H.tyR rfl ta0 (ci := 3) (k := 2) (by decide) (by decide) (by decide)
    refine EX.bd (H.gR ea_3 to2 (by decide) (by decide) (by decide)) ?_
    have t_6 := H.tyR ea_3 to2 (ci := 0) (k := 9) (by decide) (by decide) (by decide)
    obtain ⟨a_9, ea_9, hf⟩ := x_bind hf
    have Hc_ := H.cv ea_9 to1 (by decide)
    obtain ⟨r_8, er_8, hf⟩ := x_bind hf
    obtain ⟨h_7, eh_7, H, E_⟩ := g58_ok H ea_9 to1 t_6 er_8
    refine EX.bd Hc_ ?_
    refine EX.bd eh_7 ?_
    dsimp only
    replace t_5 := t_5.up E_
    replace ta0 := ta0.up E_
    replace to2 := to2.up E_
    replace to3 := to3.up E_
    replace to1 := to1.up E_
    replace E := E.tr E_
    obtain ⟨C_11, eC_11, hf⟩ := x_bind hf
    obtain ⟨h_10, eh_10, H, E_⟩ := g27_ok H t_5 eC_11
    refine EX.bd eh_10 ?_
    replace to1 := to1.up E_
    replace ta0 := ta0.up E_
    replace to3 := to3.up E_
    replace to2 := to2.up E_
    replace E := E.tr E_
    exact EX.uC E (gj30_74_ok H ta0 to1 to2 to3 hf)
theorem g30_ok {h : xH} {C : xC} {o0 : Option Nat} {a0 : Nat} {o1 : Option Nat} {o2 : Option Nat} {o3 : Option Nat} {r : xC} (H : WH h C) (e0 : o0 = some a0) (ta0 : tR C o0 3) (to1 : tR C o1 5) (to2 : tR C o2 0) (to3 : tR C o3 9) (hf : g30 a0 o1 o2 o3 C = some r) : EX (fn30 o0 o1 o2 o3 h) (fun z => z) (QC C r) := by
  subst e0
  have E := Ext.rfl' (C := C)
  unfold g30 at hf
  unfold fn30
  have Hc_ := H.cv rfl ta0 (by decide)
  obtain ⟨C_2, eC_2, hf⟩ := x_bind hf
  obtain ⟨h_1, eh_1, H, E_⟩ := g31_ok H rfl ta0 eC_2
  refine EX.bd Hc_ ?_
  refine EX.bd eh_1 ?_
  replace to1 := to1.up E_
  replace ta0 := ta0.up E_
  replace to3 := to3.up E_
  replace to2 := to2.up E_
  replace E := E.tr E_
  refine EX.bd (H.gR rfl ta0 (by decide) (by decide) (by decide)) ?_
  have t_3 := H.tyR rfl ta0 (ci := 3) (k := 2) (by decide) (by decide) (by decide)
  obtain ⟨a_4, ea_4, hf⟩ := x_bind hf
  refine EX.bd (H.gI ea_4 to2 (by decide) (by decide) rfl) ?_
  obtain ⟨r_6, er_6, hf⟩ := x_bind hf
  obtain ⟨h_5, eh_5, H, E_⟩ := g139_ok H er_6
  refine EX.bd eh_5 ?_
  dsimp only
  replace ta0 := ta0.up E_
  replace t_3 := t_3.up E_
  replace to2 := to2.up E_
  replace to3 := to3.up E_
  replace to1 := to1.up E_
  replace E := E.tr E_
  obtain ⟨a_9, ea_9, hf⟩ := x_bind hf
  have Hc_ := H.cv ea_9 t_3 (by decide)
  obtain ⟨C_8, eC_8, hf⟩ := x_bind hf
  obtain ⟨h_7, eh_7, H, E_⟩ := g99_ok H ea_9 t_3 eC_8
  refine EX.bd Hc_ ?_
  refine EX.bd eh_7 ?_
  replace ta0 := ta0.up E_
  replace t_3 := t_3.up E_
  replace to2 := to2.up E_
  replace to3 := to3.up E_
  replace to1 := to1.up E_
  replace E := E.tr E_
  refine EX.bd (H.gI ea_4 to2 (by decide) (by decide) rfl) ?_
  by_cases c_10 : (cI C_8 a_4 1) = 3
  · replace hf := x_pos c_10 hf
    refine EX.pos c_10 ?_
    exact EX.uC E (gj30_52_ok H ta0 to1 to2 to3 hf)
  · replace hf := x_neg c_10 hf
    refine EX.neg c_10 ?_
    refine EX.bd (H.gR rfl ta0 (by decide) (by decide) (by decide)) ?_
    have t_11 := H.tyR rfl ta0 (ci := 3) (k := 2) (by decide) (by decide) (by decide)
    obtain ⟨a_14, ea_14, hf⟩ := x_bind hf
    have Hc_ := H.cv ea_14 t_11 (by decide)
    obtain ⟨r_13, er_13, hf⟩ := x_bind hf
    obtain ⟨h_12, eh_12, H, E_⟩ := g97_ok H ea_14 t_11 er_13
    refine EX.bd Hc_ ?_
    refine EX.bd eh_12 ?_
    dsimp only
    replace t_11 := t_11.up E_
    replace ta0 := ta0.up E_
    replace t_3 := t_3.up E_
    replace to2 := to2.up E_
    replace to3 := to3.up E_
    replace to1 := to1.up E_
    replace E := E.tr E_
    refine EX.bd (H.gR rfl ta0 (by decide) (by decide) (by decide)) ?_
    have t_15 := H.tyR rfl ta0 (ci := 3) (k := 2) (by decide) (by decide) (by decide)
    refine EX.bd (H.gI ea_4 to2 (by decide) (by decide) rfl) ?_
    refine EX.bd (H.gI ea_4 to2 (by decide) (by decide) rfl) ?_
    obtain ⟨a_18, ea_18, hf⟩ := x_bind hf
    have Hc_ := H.cv ea_18 t_15 (by decide)
    obtain ⟨C_17, eC_17, hf⟩ := x_bind hf
    obtain ⟨h_16, eh_16, H, E_⟩ := g100_ok H ea_18 t_15 to3 eC_17
    refine EX.bd Hc_ ?_
    refine EX.bd eh_16 ?_
    replace t_15 := t_15.up E_
    replace t_11 := t_11.up E_
    replace ta0 := ta0.up E_
    replace t_3 := t_3.up E_
    replace to2 := to2.up E_
    replace to3 := to3.up E_
    replace to1 := to1.up E_
    replace E := E.tr E_
    exact EX.uC E (gj30_52_ok H ta0 to1 to2 to3 hf)
end
section
theorem gj29_132_ok {k46 : Nat → Option Nat → Option Nat → Option Nat → Int32 → xC → Option xC} {f46 : Option Nat → Option Nat → Option Nat → Option Nat → Int32 → xH → Option xH} (hk46 : ∀ {h : xH} {C : xC} {a0 : Nat} {o1 : Option Nat} {o2 : Option Nat} {o3 : Option Nat} {x4 : Int32} {r : xC}, WH h C → tR C (some a0) 3 → tR C o1 5 → tR C o2 0 → tR C o3 1 → k46 a0 o1 o2 o3 x4 C = some r → EX (f46 (some a0) o1 o2 o3 x4 h) (fun z => z) (QC C r)) {h : xH} {C : xC} {a0 : Nat} {o1 : Option Nat} {o2 : Option Nat} {o3 : Option Nat} {x4 : Int32} {o5 : Option Nat} {r : xC} (H : WH h C) (ta0 : tR C (some a0) 3) (to1 : tR C o1 5) (to2 : tR C o2 0) (to3 : tR C o3 1) (to5 : tR C o5 6) (hf : gj29_132 k46 a0 o1 o2 o3 x4 o5 C = some r) : EX (j29_132 f46 (some a0) o1 o2 o3 x4 o5 h) (fun z => z) (QC C r) := by
  have E := Ext.rfl' (C := C)
  unfold gj29_132 at hf
  unfold j29_132
  have Hc_ := H.cv rfl ta0 (by decide)
  obtain ⟨C_2, eC_2, hf⟩ := x_bind hf
  obtain ⟨h_1, eh_1, H, E_⟩ := g32_ok H rfl ta0 eC_2
  refine EX.bd Hc_ ?_
  refine EX.bd eh_1 ?_
  replace to5 := to5.up E_
  replace ta0 := ta0.up E_
  replace to2 := to2.up E_
  replace to3 := to3.up E_
  replace to1 := to1.up E_
  replace E := E.tr E_
  exact EX.uC E (hk46 H ta0 to1 to2 to3 hf)
theorem gj29_86_ok {k46 : Nat → Option Nat → Option Nat → Option Nat → Int32 → xC → Option xC} {f46 : Option Nat → Option Nat → Option Nat → Option Nat → Int32 → xH → Option xH} (hk46 : ∀ {h : xH} {C : xC} {a0 : Nat} {o1 : Option Nat} {o2 : Option Nat} {o3 : Option Nat} {x4 : Int32} {r : xC}, WH h C → tR C (some a0) 3 → tR C o1 5 → tR C o2 0 → tR C o3 1 → k46 a0 o1 o2 o3 x4 C = some r → EX (f46 (some a0) o1 o2 o3 x4 h) (fun z => z) (QC C r)) {h : xH} {C : xC} {a0 : Nat} {o1 : Option Nat} {o2 : Option Nat} {o3 : Option Nat} {x4 : Int32} {o5 : Option Nat} {r : xC} (H : WH h C) (ta0 : tR C (some a0) 3) (to1 : tR C o1 5) (to2 : tR C o2 0) (to3 : tR C o3 1) (to5 : tR C o5 6) (hf : gj29_86 k46 a0 o1 o2 o3 x4 o5 C = some r) : EX (j29_86 f46 (some a0) o1 o2 o3 x4 o5 h) (fun z => z) (QC C r) := by
  have E := Ext.rfl' (C := C)
  unfold gj29_86 at hf
  unfold j29_86
  refine EX.bd (H.gR rfl ta0 (by decide) (by decide) (by decide)) ?_
  have t_1 := H.tyR rfl ta0 (ci := 3) (k := 2) (by decide) (by decide) (by decide)
  obtain ⟨a_2, ea_2, hf⟩ := x_bind hf
  refine EX.bd (H.gR ea_2 to3 (by decide) (by decide) (by decide)) ?_
  have t_3 := H.tyR ea_2 to3 (ci := 1) (k := 0) (by decide) (by decide) (by decide)
  obtain ⟨a_4, ea_4, hf⟩ := x_bind hf
  refine EX.bd (H.gI ea_4 to5 (by decide) (by decide) rfl) ?_
  refine EX.bd (H.gI ea_4 to5 (by decide) (by decide) rfl) ?_
  obtain ⟨a_7, ea_7, hf⟩ := x_bind hf
  have Hc_ := H.cv ea_7 t_1 (by decide)
  obtain ⟨C_6, eC_6, hf⟩ := x_bind hf
  obtain ⟨h_5, eh_5, H, E_⟩ := g100_ok H ea_7 t_1 t_3 eC_6
  refine EX.bd Hc_ ?_
  refine EX.bd eh_5 ?_
  replace t_1 := t_1.up E_
  replace to5 := to5.up E_
  replace ta0 := ta0.up E_
  replace to2 := to2.up E_
  replace to3 := to3.up E_
  replace to1 := to1.up E_
  replace E := E.tr E_
  refine EX.bd (H.gI ea_4 to5 (by decide) (by decide) rfl) ?_
  by_cases c_8 : (cI C_6 a_4 0) = 2
  · replace hf := x_pos c_8 hf
    refine EX.pos c_8 ?_
    refine EX.bd (H.gR rfl ta0 (by decide) (by decide) (by decide)) ?_
    have t_9 := H.tyR rfl ta0 (ci := 3) (k := 2) (by decide) (by decide) (by decide)
    refine EX.bd (H.gR ea_4 to5 (by decide) (by decide) (by decide)) ?_
    have t_10 := H.tyR ea_4 to5 (ci := 6) (k := 7) (by decide) (by decide) (by decide)
    obtain ⟨a_13, ea_13, hf⟩ := x_bind hf
    have Hc_ := H.cv ea_13 to1 (by decide)
    obtain ⟨r_12, er_12, hf⟩ := x_bind hf
    obtain ⟨h_11, eh_11, H, E_⟩ := g58_ok H ea_13 to1 t_10 er_12
    refine EX.bd Hc_ ?_
    refine EX.bd eh_11 ?_
    dsimp only
    replace t_9 := t_9.up E_
    replace t_1 := t_1.up E_
    replace to5 := to5.up E_
    replace ta0 := ta0.up E_
    replace to2 := to2.up E_
    replace to3 := to3.up E_
    replace to1 := to1.up E_
    replace E := E.tr E_
    obtain ⟨C_15, eC_15, hf⟩ := x_bind hf
    obtain ⟨h_14, eh_14, H, E_⟩ := g27_ok H t_9 eC_15
    refine EX.bd eh_14 ?_
    replace t_1 := t_1.up E_
    replace to5 := to5.up E_
    replace ta0 := ta0.up E_
    replace to2 := to2.up E_
    replace to3 := to3.up E_
    replace to1 := to1.up E_
    replace E := E.tr E_
    exact EX.uC E (gj29_132_ok (k46 := k46) (f46 := f46) hk46 H ta0 to1 to2 to3 to5 hf)
  · replace hf := x_neg c_8 hf
    refine EX.neg c_8 ?_
    exact EX.uC E (gj29_132_ok (k46 := k46) (f46 := f46) hk46 H ta0 to1 to2 to3 to5 hf)
theorem gl29_46_ok : ∀ (n : Nat) {h : xH} {C : xC} {a0 : Nat} {o1 : Option Nat} {o2 : Option Nat} {o3 : Option Nat} {x4 : Int32} {r : xC} (H : WH h C) (ta0 : tR C (some a0) 3) (to1 : tR C o1 5) (to2 : tR C o2 0) (to3 : tR C o3 1), gl29_46 n a0 o1 o2 o3 x4 C = some r → EX (l29_46 n (some a0) o1 o2 o3 x4 h) (fun z => z) (QC C r) := by
  intro n
  induction n with
  | zero => intros; rename_i hf; cases hf
  | succ n ih =>
    intro h C a0 o1 o2 o3 x4 r H ta0 to1 to2 to3 hf
    have E := Ext.rfl' (C := C)
    replace hf : ((o2).bind fun a_1 => (if (cI C a_1 5) ≤ x4 then some C else (o3).bind fun a_5 => (g6 a_5 ((cI C a_1 4) + x4) C).bind fun r_4 => (if r_4.1 = none then some r_4.2 else (r_4.1).bind fun a_8 => (if (cI r_4.2 a_8 6) = 0 then (g31 a0 r_4.2).bind fun C_11 => gj29_86 (gl29_46 n) a0 o1 o2 o3 x4 r_4.1 C_11 else gj29_86 (gl29_46 n) a0 o1 o2 o3 x4 r_4.1 r_4.2)))) = some r := hf
    unfold l29_46
    obtain ⟨a_1, ea_1, hf⟩ := x_bind hf
    refine EX.bd (H.gI ea_1 to2 (by decide) (by decide) rfl) ?_
    by_cases c_2 : (cI C a_1 5) ≤ x4
    · replace hf := x_pos c_2 hf
      refine EX.pos c_2 ?_
      obtain rfl := Option.some.inj hf
      exact ⟨_, rfl, H, E⟩
    · replace hf := x_neg c_2 hf
      refine EX.neg c_2 ?_
      refine EX.bd (H.gI ea_1 to2 (by decide) (by decide) rfl) ?_
      obtain ⟨a_5, ea_5, hf⟩ := x_bind hf
      have Hc_ := H.cv ea_5 to3 (by decide)
      obtain ⟨r_4, er_4, hf⟩ := x_bind hf
      obtain ⟨h_3, eh_3, H, E_, t_6⟩ := g6_ok H ea_5 to3 er_4
      refine EX.bd Hc_ ?_
      refine EX.bd eh_3 ?_
      dsimp only
      replace to1 := to1.up E_
      replace ta0 := ta0.up E_
      replace to3 := to3.up E_
      replace to2 := to2.up E_
      replace E := E.tr E_
      by_cases c_7 : r_4.1 = none
      · replace hf := x_pos c_7 hf
        refine EX.pos c_7 ?_
        obtain rfl := Option.some.inj hf
        exact ⟨_, rfl, H, E⟩
      · replace hf := x_neg c_7 hf
        refine EX.neg c_7 ?_
        obtain ⟨a_8, ea_8, hf⟩ := x_bind hf
        refine EX.bd (H.gI ea_8 t_6 (by decide) (by decide) rfl) ?_
        by_cases c_9 : (cI r_4.2 a_8 6) = 0
        · replace hf := x_pos c_9 hf
          refine EX.pos c_9 ?_
          have Hc_ := H.cv rfl ta0 (by decide)
          obtain ⟨C_11, eC_11, hf⟩ := x_bind hf
          obtain ⟨h_10, eh_10, H, E_⟩ := g31_ok H rfl ta0 eC_11
          refine EX.bd Hc_ ?_
          refine EX.bd eh_10 ?_
          replace t_6 := t_6.up E_
          replace ta0 := ta0.up E_
          replace to2 := to2.up E_
          replace to3 := to3.up E_
          replace to1 := to1.up E_
          replace E := E.tr E_
          exact EX.uC E (gj29_86_ok (k46 := (gl29_46 n)) (f46 := (l29_46 n)) ih H ta0 to1 to2 to3 t_6 hf)
        · replace hf := x_neg c_9 hf
          refine EX.neg c_9 ?_
          exact EX.uC E (gj29_86_ok (k46 := (gl29_46 n)) (f46 := (l29_46 n)) ih H ta0 to1 to2 to3 t_6 hf)
theorem gj29_43_ok {h : xH} {C : xC} {a0 : Nat} {o1 : Option Nat} {o2 : Option Nat} {o3 : Option Nat} {r : xC} (H : WH h C) (ta0 : tR C (some a0) 3) (to1 : tR C o1 5) (to2 : tR C o2 0) (to3 : tR C o3 1) (hf : gj29_43 a0 o1 o2 o3 C = some r) : EX (j29_43 (some a0) o1 o2 o3 h) (fun z => z) (QC C r) := by
  have E := Ext.rfl' (C := C)
  unfold gj29_43 at hf
  unfold j29_43
  exact EX.uC E (gl29_46_ok xFuel H ta0 to1 to2 to3 hf)
theorem g29_ok {h : xH} {C : xC} {o0 : Option Nat} {a0 : Nat} {o1 : Option Nat} {o2 : Option Nat} {r : xC} (H : WH h C) (e0 : o0 = some a0) (ta0 : tR C o0 3) (to1 : tR C o1 5) (to2 : tR C o2 0) (hf : g29 a0 o1 o2 C = some r) : EX (fn29 o0 o1 o2 h) (fun z => z) (QC C r) := by
  subst e0
  have E := Ext.rfl' (C := C)
  unfold g29 at hf
  unfold fn29
  refine EX.bd (H.gR rfl ta0 (by decide) (by decide) (by decide)) ?_
  have t_1 := H.tyR rfl ta0 (ci := 3) (k := 2) (by decide) (by decide) (by decide)
  obtain ⟨a_4, ea_4, hf⟩ := x_bind hf
  have Hc_ := H.cv ea_4 t_1 (by decide)
  obtain ⟨C_3, eC_3, hf⟩ := x_bind hf
  obtain ⟨h_2, eh_2, H, E_⟩ := g101_ok H ea_4 t_1 eC_3
  refine EX.bd Hc_ ?_
  refine EX.bd eh_2 ?_
  replace to1 := to1.up E_
  replace ta0 := ta0.up E_
  replace t_1 := t_1.up E_
  replace to2 := to2.up E_
  replace E := E.tr E_
  obtain ⟨C_5, eC_5, hf⟩ := x_bind hf
  obtain ⟨h_6, eh_6, H, E_⟩ := H.pI rfl ta0 (by decide) (by decide) rfl (xfit_int _) eC_5
  refine EX.bd eh_6 ?_
  replace to1 := to1.up E_
  replace ta0 := ta0.up E_
  replace t_1 := t_1.up E_
  replace to2 := to2.up E_
  replace E := E.tr E_
  obtain ⟨a_7, ea_7, hf⟩ := x_bind hf
  refine EX.bd (H.gR ea_7 to2 (by decide) (by decide) (by decide)) ?_
  have t_8 := H.tyR ea_7 to2 (ci := 0) (k := 0) (by decide) (by decide) (by decide)
  by_cases c_9 : (cR C_5 a_7 0) = none
  · replace hf := x_pos c_9 hf
    refine EX.pos c_9 ?_
    obtain rfl := Option.some.inj hf
    exact ⟨_, rfl, H, E⟩
  · replace hf := x_neg c_9 hf
    refine EX.neg c_9 ?_
    refine EX.bd (H.gI ea_7 to2 (by decide) (by decide) rfl) ?_
    obtain ⟨r_11, er_11, hf⟩ := x_bind hf
    obtain ⟨h_10, eh_10, H, E_⟩ := g138_ok H er_11
    refine EX.bd eh_10 ?_
    dsimp only
    replace t_1 := t_1.up E_
    replace ta0 := ta0.up E_
    replace t_8 := t_8.up E_
    replace to2 := to2.up E_
    replace to1 := to1.up E_
    replace E := E.tr E_
    by_cases c_12 : r_11.1 = 0
    · replace hf := x_pos c_12 hf
      refine EX.pos c_12 ?_
      exact EX.uC E (gj29_43_ok H ta0 to1 to2 t_8 hf)
    · replace hf := x_neg c_12 hf
      refine EX.neg c_12 ?_
      obtain ⟨a_13, ea_13, hf⟩ := x_bind hf
      refine EX.bd (H.gR ea_13 t_8 (by decide) (by decide) (by decide)) ?_
      have t_14 := H.tyR ea_13 t_8 (ci := 1) (k := 0) (by decide) (by decide) (by decide)
      have Hc_ := H.cv rfl ta0 (by decide)
      obtain ⟨C_16, eC_16, hf⟩ := x_bind hf
      obtain ⟨h_15, eh_15, H, E_⟩ := g30_ok H rfl ta0 to1 to2 t_14 eC_16
      refine EX.bd Hc_ ?_
      refine EX.bd eh_15 ?_
      replace t_1 := t_1.up E_
      replace ta0 := ta0.up E_
      replace t_8 := t_8.up E_
      replace to2 := to2.up E_
      replace to1 := to1.up E_
      replace E := E.tr E_
      exact EX.uC E (gj29_43_ok H ta0 to1 to2 t_8 hf)
end
section
theorem gj34_28_ok {h : xH} {C : xC} {a0 : Nat} {x1 : Int32} {s0 : Int32} {r : (Int32 × xC)} (H : WH h C) (ta0 : tR C (some a0) 3) (hf : gj34_28 a0 x1 s0 C = some r) : EX (j34_28 (some a0) x1 s0 h) (fun z => (r.1, z)) (QC C r.2) := by
  have E := Ext.rfl' (C := C)
  unfold gj34_28 at hf
  unfold j34_28
  obtain rfl := Option.some.inj hf
  exact ⟨_, rfl, H, E⟩
theorem gj34_12_ok {h : xH} {C : xC} {a0 : Nat} {x1 : Int32} {r : (Int32 × xC)} (H : WH h C) (ta0 : tR C (some a0) 3) (hf : gj34_12 a0 x1 C = some r) : EX (j34_12 (some a0) x1 h) (fun z => (r.1, z)) (QC C r.2) := by
  have E := Ext.rfl' (C := C)
  unfold gj34_12 at hf
  unfold j34_12
  refine EX.bd (H.gR rfl ta0 (by decide) (by decide) (by decide)) ?_
  have t_1 := H.tyR rfl ta0 (ci := 3) (k := 2) (by decide) (by decide) (by decide)
  obtain ⟨a_2, ea_2, hf⟩ := x_bind hf
  refine EX.bd (H.gI ea_2 t_1 (by decide) (by decide) rfl) ?_
  exact EX.uC E (gj34_28_ok H ta0 hf)
theorem g34_ok {h : xH} {C : xC} {o0 : Option Nat} {a0 : Nat} {x1 : Int32} {r : (Int32 × xC)} (H : WH h C) (e0 : o0 = some a0) (ta0 : tR C o0 3) (hf : g34 a0 x1 C = some r) : EX (fn34 o0 x1 h) (fun z => (r.1, z)) (QC C r.2) := by
  subst e0
  have E := Ext.rfl' (C := C)
  unfold g34 at hf
  unfold fn34
  by_cases c_1 : x1 < 0
  · replace hf := x_pos c_1 hf
    refine EX.pos c_1 ?_
    exact EX.uC E (gj34_12_ok H ta0 hf)
  · replace hf := x_neg c_1 hf
    refine EX.neg c_1 ?_
    refine EX.bd (H.gI rfl ta0 (by decide) (by decide) rfl) ?_
    by_cases c_2 : x1 ≤ (cI C a0 4)
    · replace hf := x_pos c_2 hf
      refine EX.pos c_2 ?_
      refine EX.bd (H.gR rfl ta0 (by decide) (by decide) (by decide)) ?_
      have t_3 := H.tyR rfl ta0 (ci := 3) (k := 3) (by decide) (by decide) (by decide)
      obtain ⟨a_5, ea_5, hf⟩ := x_bind hf
      obtain ⟨v_4, ev_4, hf⟩ := x_bind hf
      refine EX.bd (H.ld ea_5 t_3 (by decide) (by decide) ev_4) ?_
      exact EX.uC E (gj34_28_ok H ta0 hf)
    · replace hf := x_neg c_2 hf
      refine EX.neg c_2 ?_
      exact EX.uC E (gj34_12_ok H ta0 hf)
end
section
theorem gj33_15_ok {h : xH} {C : xC} {a0 : Nat} {x1 : Int32} {x2 : Int32} {s0 : Int32} {r : (Int32 × xC)} (H : WH h C) (ta0 : tR C (some a0) 3) (hf : gj33_15 a0 x1 x2 s0 C = some r) : EX (j33_15 (some a0) x1 x2 s0 h) (fun z => (r.1, z)) (QC C r.2) := by
  have E := Ext.rfl' (C := C)
  unfold gj33_15 at hf
  unfold j33_15
  have Hc_ := H.cv rfl ta0 (by decide)
  obtain ⟨r_2, er_2, hf⟩ := x_bind hf
  obtain ⟨h_1, eh_1, H, E_⟩ := g34_ok H rfl ta0 er_2
  refine EX.bd Hc_ ?_
  refine EX.bd eh_1 ?_
  dsimp only
  replace ta0 := ta0.up E_
  replace E := E.tr E_
  have Hc_ := H.cv rfl ta0 (by decide)
  obtain ⟨r_4, er_4, hf⟩ := x_bind hf
  obtain ⟨h_3, eh_3, H, E_⟩ := g34_ok H rfl ta0 er_4
  refine EX.bd Hc_ ?_
  refine EX.bd eh_3 ?_
  dsimp only
  replace ta0 := ta0.up E_
  replace E := E.tr E_
  obtain rfl := Option.some.inj hf
  exact ⟨_, rfl, H, E⟩
theorem g33_ok {h : xH} {C : xC} {o0 : Option Nat} {a0 : Nat} {x1 : Int32} {x2 : Int32} {r : (Int32 × xC)} (H : WH h C) (e0 : o0 = some a0) (ta0 : tR C o0 3) (hf : g33 a0 x1 x2 C = some r) : EX (fn33 o0 x1 x2 h) (fun z => (r.1, z)) (QC C r.2) := by
  subst e0
  have E := Ext.rfl' (C := C)
  unfold g33 at hf
  unfold fn33
  by_cases c_1 : x1 = 0
  · replace hf := x_pos c_1 hf
    refine EX.pos c_1 ?_
    refine EX.bd (H.gI rfl ta0 (by decide) (by decide) rfl) ?_
    exact EX.uC E (gj33_15_ok H ta0 hf)
  · replace hf := x_neg c_1 hf
    refine EX.neg c_1 ?_
    refine EX.bd (H.gI rfl ta0 (by decide) (by decide) rfl) ?_
    exact EX.uC E (gj33_15_ok H ta0 hf)
end
section
theorem gj35_33_ok {h : xH} {C : xC} {a0 : Nat} {x1 : Int32} {x2 : Int32} {r : (Int32 × xC)} (H : WH h C) (ta0 : tR C (some a0) 3) (hf : gj35_33 a0 x1 x2 C = some r) : EX (j35_33 (some a0) x1 x2 h) (fun z => (r.1, z)) (QC C r.2) := by
  have E := Ext.rfl' (C := C)
  unfold gj35_33 at hf
  unfold j35_33
  obtain rfl := Option.some.inj hf
  exact ⟨_, rfl, H, E⟩
theorem gl35_4_ok : ∀ (n : Nat) {h : xH} {C : xC} {a0 : Nat} {x1 : Int32} {x2 : Int32} {r : (Int32 × xC)} (H : WH h C) (ta0 : tR C (some a0) 3), gl35_4 n a0 x1 x2 C = some r → EX (l35_4 n (some a0) x1 x2 h) (fun z => (r.1, z)) (QC C r.2) := by
  intro n
  induction n with
  | zero => intros; rename_i hf; cases hf
  | succ n ih =>
    intro h C a0 x1 x2 r H ta0 hf
    have E := Ext.rfl' (C := C)
    replace hf : ((if (cI C a0 4) ≤ x2 then gj35_33 a0 x1 x2 C else (g33 a0 x1 (x2 + 1) C).bind fun r_3 => (if (cI r_3.2 a0 7) < r_3.1 then gj35_33 a0 x1 x2 r_3.2 else gl35_4 n a0 x1 (x2 + 1) r_3.2))) = some r := hf
    unfold l35_4
    refine EX.bd (H.gI rfl ta0 (by decide) (by decide) rfl) ?_
    by_cases c_1 : (cI C a0 4) ≤ x2
    · replace hf := x_pos c_1 hf
      refine EX.pos c_1 ?_
      exact EX.uC E (gj35_33_ok H ta0 hf)
    · replace hf := x_neg c_1 hf
      refine EX.neg c_1 ?_
      have Hc_ := H.cv rfl ta0 (by decide)
      obtain ⟨r_3, er_3, hf⟩ := x_bind hf
      obtain ⟨h_2, eh_2, H, E_⟩ := g33_ok H rfl ta0 er_3
      refine EX.bd Hc_ ?_
      refine EX.bd eh_2 ?_
      dsimp only
      replace ta0 := ta0.up E_
      replace E := E.tr E_
      refine EX.bd (H.gI rfl ta0 (by decide) (by decide) rfl) ?_
      by_cases c_4 : (cI r_3.2 a0 7) < r_3.1
      · replace hf := x_pos c_4 hf
        refine EX.pos c_4 ?_
        exact EX.uC E (gj35_33_ok H ta0 hf)
      · replace hf := x_neg c_4 hf
        refine EX.neg c_4 ?_
        exact EX.uC E (ih H ta0 hf)
theorem g35_ok {h : xH} {C : xC} {o0 : Option Nat} {a0 : Nat} {x1 : Int32} {r : (Int32 × xC)} (H : WH h C) (e0 : o0 = some a0) (ta0 : tR C o0 3) (hf : g35 a0 x1 C = some r) : EX (fn35 o0 x1 h) (fun z => (r.1, z)) (QC C r.2) := by
  subst e0
  have E := Ext.rfl' (C := C)
  unfold g35 at hf
  unfold fn35
  exact EX.uC E (gl35_4_ok xFuel H ta0 hf)
end
section
theorem gl37_2_ok : ∀ (n : Nat) {h : xH} {C : xC} {a0 : Nat} {x1 : Int32} {r : xC} (H : WH h C) (ta0 : tR C (some a0) 3), gl37_2 n a0 x1 C = some r → EX (l37_2 n (some a0) x1 h) (fun z => z) (QC C r) := by
  intro n
  induction n with
  | zero => intros; rename_i hf; cases hf
  | succ n ih =>
    intro h C a0 x1 r H ta0 hf
    have E := Ext.rfl' (C := C)
    replace hf : ((if (cI C a0 4) ≤ x1 then some C else (g35 a0 x1 C).bind fun r_4 => (cR C a0 5).bind fun a_7 => (cSt r_4.2 a_7 x1 r_4.1).bind fun C_5 => gl37_2 n a0 (x1 + 1) C_5)) = some r := hf
    unfold l37_2
    refine EX.bd (H.gI rfl ta0 (by decide) (by decide) rfl) ?_
    by_cases c_1 : (cI C a0 4) ≤ x1
    · replace hf := x_pos c_1 hf
      refine EX.pos c_1 ?_
      obtain rfl := Option.some.inj hf
      exact ⟨_, rfl, H, E⟩
    · replace hf := x_neg c_1 hf
      refine EX.neg c_1 ?_
      refine EX.bd (H.gR rfl ta0 (by decide) (by decide) (by decide)) ?_
      have t_2 := H.tyR rfl ta0 (ci := 3) (k := 5) (by decide) (by decide) (by decide)
      have Hc_ := H.cv rfl ta0 (by decide)
      obtain ⟨r_4, er_4, hf⟩ := x_bind hf
      obtain ⟨h_3, eh_3, H, E_⟩ := g35_ok H rfl ta0 er_4
      refine EX.bd Hc_ ?_
      refine EX.bd eh_3 ?_
      dsimp only
      replace t_2 := t_2.up E_
      replace ta0 := ta0.up E_
      replace E := E.tr E_
      obtain ⟨a_7, ea_7, hf⟩ := x_bind hf
      obtain ⟨C_5, eC_5, hf⟩ := x_bind hf
      obtain ⟨h_6, eh_6, H, E_⟩ := H.st (f := fun x => x) ea_7 t_2 (tg := 13) (by decide) (by decide) eC_5
      refine EX.bd eh_6 ?_
      replace t_2 := t_2.up E_
      replace ta0 := ta0.up E_
      replace E := E.tr E_
      exact EX.uC E (ih H ta0 hf)
theorem g37_ok {h : xH} {C : xC} {o0 : Option Nat} {a0 : Nat} {r : xC} (H : WH h C) (e0 : o0 = some a0) (ta0 : tR C o0 3) (hf : g37 a0 C = some r) : EX (fn37 o0 h) (fun z => z) (QC C r) := by
  subst e0
  have E := Ext.rfl' (C := C)
  unfold g37 at hf
  unfold fn37
  exact EX.uC E (gl37_2_ok xFuel H ta0 hf)
end
section
theorem gj36_27_ok {h : xH} {C : xC} {a0 : Nat} {x1 : Int32} {x2 : Int32} {s0 : Int32} {r : (Int32 × xC)} (H : WH h C) (ta0 : tR C (some a0) 3) (hf : gj36_27 a0 x1 x2 s0 C = some r) : EX (j36_27 (some a0) x1 x2 s0 h) (fun z => (r.1, z)) (QC C r.2) := by
  have E := Ext.rfl' (C := C)
  unfold gj36_27 at hf
  unfold j36_27
  obtain rfl := Option.some.inj hf
  exact ⟨_, rfl, H, E⟩
theorem g36_ok {h : xH} {C : xC} {o0 : Option Nat} {a0 : Nat} {x1 : Int32} {x2 : Int32} {r : (Int32 × xC)} (H : WH h C) (e0 : o0 = some a0) (ta0 : tR C o0 3) (hf : g36 a0 x1 x2 C = some r) : EX (fn36 o0 x1 x2 h) (fun z => (r.1, z)) (QC C r.2) := by
  subst e0
  have E := Ext.rfl' (C := C)
  unfold g36 at hf
  unfold fn36
  refine EX.bd (H.gI rfl ta0 (by decide) (by decide) rfl) ?_
  by_cases c_1 : (cI C a0 4) ≤ x2
  · replace hf := x_pos c_1 hf
    refine EX.pos c_1 ?_
    exact EX.uC E (gj36_27_ok H ta0 hf)
  · replace hf := x_neg c_1 hf
    refine EX.neg c_1 ?_
    refine EX.bd (H.gI rfl ta0 (by decide) (by decide) rfl) ?_
    have Hc_ := H.cv rfl ta0 (by decide)
    obtain ⟨r_3, er_3, hf⟩ := x_bind hf
    obtain ⟨h_2, eh_2, H, E_⟩ := g33_ok H rfl ta0 er_3
    refine EX.bd Hc_ ?_
    refine EX.bd eh_2 ?_
    dsimp only
    replace ta0 := ta0.up E_
    replace E := E.tr E_
    exact EX.uC E (gj36_27_ok H ta0 hf)
end
section
theorem gj38_103_ok {k17 : Nat → Int32 → xC → Option xC} {f17 : Option Nat → Int32 → xH → Option xH} (hk17 : ∀ {h : xH} {C : xC} {a0 : Nat} {x1 : Int32} {r : xC}, WH h C → tR C (some a0) 3 → k17 a0 x1 C = some r → EX (f17 (some a0) x1 h) (fun z => z) (QC C r)) {k57 : Nat → Int32 → Int32 → Int32 → xC → Option xC} {f57 : Option Nat → Int32 → Int32 → Int32 → xH → Option xH} (hk57 : ∀ {h : xH} {C : xC} {a0 : Nat} {x1 : Int32} {x2 : Int32} {x3 : Int32} {r : xC}, WH h C → tR C (some a0) 3 → k57 a0 x1 x2 x3 C = some r → EX (f57 (some a0) x1 x2 x3 h) (fun z => z) (QC C r)) {h : xH} {C : xC} {a0 : Nat} {x1 : Int32} {x2 : Int32} {x3 : Int32} {x4 : Int32} {r : xC} (H : WH h C) (ta0 : tR C (some a0) 3) (hf : gj38_103 k17 k57 a0 x1 x2 x3 x4 C = some r) : EX (j38_103 f17 f57 (some a0) x1 x2 x3 x4 h) (fun z => z) (QC C r) := by
  have E := Ext.rfl' (C := C)
  unfold gj38_103 at hf
  unfold j38_103
  exact EX.uC E (hk57 H ta0 hf)
theorem gl38_57_ok {k17 : Nat → Int32 → xC → Option xC} {f17 : Option Nat → Int32 → xH → Option xH} (hk17 : ∀ {h : xH} {C : xC} {a0 : Nat} {x1 : Int32} {r : xC}, WH h C → tR C (some a0) 3 → k17 a0 x1 C = some r → EX (f17 (some a0) x1 h) (fun z => z) (QC C r)) : ∀ (n : Nat) {h : xH} {C : xC} {a0 : Nat} {x1 : Int32} {x2 : Int32} {x3 : Int32} {r : xC} (H : WH h C) (ta0 : tR C (some a0) 3), gl38_57 k17 n a0 x1 x2 x3 C = some r → EX (l38_57 f17 n (some a0) x1 x2 x3 h) (fun z => z) (QC C r) := by
  intro n
  induction n with
  | zero => intros; rename_i hf; cases hf
  | succ n ih =>
    intro h C a0 x1 x2 x3 r H ta0 hf
    have E := Ext.rfl' (C := C)
    replace hf : ((if x3 ≤ x1 then k17 a0 (x1 + (-1)) C else (g36 a0 x1 x3 C).bind fun r_3 => (cR r_3.2 a0 6).bind fun a_6 => (cLd r_3.2 a_6 x3).bind fun v_5 => (cLd r_3.2 a_6 x1).bind fun v_7 => (if v_7 ≤ (r_3.1 + v_5) then gj38_103 k17 (gl38_57 k17 n) a0 x1 x2 x3 (r_3.1 + v_5) r_3.2 else (cR r_3.2 a0 5).bind fun a_12 => (cSt r_3.2 a_12 x1 x3).bind fun C_10 => (cR C_10 a0 6).bind fun a_16 => (cSt C_10 a_16 x1 (r_3.1 + v_5)).bind fun C_14 => gj38_103 k17 (gl38_57 k17 n) a0 x1 x2 x3 (r_3.1 + v_5) C_14))) = some r := hf
    unfold l38_57
    by_cases c_1 : x3 ≤ x1
    · replace hf := x_pos c_1 hf
      refine EX.pos c_1 ?_
      exact EX.uC E (hk17 H ta0 hf)
    · replace hf := x_neg c_1 hf
      refine EX.neg c_1 ?_
      have Hc_ := H.cv rfl ta0 (by decide)
      obtain ⟨r_3, er_3, hf⟩ := x_bind hf
      obtain ⟨h_2, eh_2, H, E_⟩ := g36_ok H rfl ta0 er_3
      refine EX.bd Hc_ ?_
      refine EX.bd eh_2 ?_
      dsimp only
      replace ta0 := ta0.up E_
      replace E := E.tr E_
      refine EX.bd (H.gR rfl ta0 (by decide) (by decide) (by decide)) ?_
      have t_4 := H.tyR rfl ta0 (ci := 3) (k := 6) (by decide) (by decide) (by decide)
      obtain ⟨a_6, ea_6, hf⟩ := x_bind hf
      obtain ⟨v_5, ev_5, hf⟩ := x_bind hf
      refine EX.bd (H.ld ea_6 t_4 (by decide) (by decide) ev_5) ?_
      refine EX.bd (H.gR rfl ta0 (by decide) (by decide) (by decide)) ?_
      obtain ⟨v_7, ev_7, hf⟩ := x_bind hf
      refine EX.bd (H.ld ea_6 t_4 (by decide) (by decide) ev_7) ?_
      by_cases c_8 : v_7 ≤ (r_3.1 + v_5)
      · replace hf := x_pos c_8 hf
        refine EX.pos c_8 ?_
        exact EX.uC E (gj38_103_ok (k17 := k17) (f17 := f17) hk17 (k57 := (gl38_57 k17 n)) (f57 := (l38_57 f17 n)) ih H ta0 hf)
      · replace hf := x_neg c_8 hf
        refine EX.neg c_8 ?_
        refine EX.bd (H.gR rfl ta0 (by decide) (by decide) (by decide)) ?_
        have t_9 := H.tyR rfl ta0 (ci := 3) (k := 5) (by decide) (by decide) (by decide)
        obtain ⟨a_12, ea_12, hf⟩ := x_bind hf
        obtain ⟨C_10, eC_10, hf⟩ := x_bind hf
        obtain ⟨h_11, eh_11, H, E_⟩ := H.st (f := fun x => x) ea_12 t_9 (tg := 13) (by decide) (by decide) eC_10
        refine EX.bd eh_11 ?_
        replace ta0 := ta0.up E_
        replace t_4 := t_4.up E_
        replace t_9 := t_9.up E_
        replace E := E.tr E_
        refine EX.bd (H.gR rfl ta0 (by decide) (by decide) (by decide)) ?_
        have t_13 := H.tyR rfl ta0 (ci := 3) (k := 6) (by decide) (by decide) (by decide)
        obtain ⟨a_16, ea_16, hf⟩ := x_bind hf
        obtain ⟨C_14, eC_14, hf⟩ := x_bind hf
        obtain ⟨h_15, eh_15, H, E_⟩ := H.st (f := fun x => x) ea_16 t_13 (tg := 13) (by decide) (by decide) eC_14
        refine EX.bd eh_15 ?_
        replace t_13 := t_13.up E_
        replace ta0 := ta0.up E_
        replace t_4 := t_4.up E_
        replace t_9 := t_9.up E_
        replace E := E.tr E_
        exact EX.uC E (gj38_103_ok (k17 := k17) (f17 := f17) hk17 (k57 := (gl38_57 k17 n)) (f57 := (l38_57 f17 n)) ih H ta0 hf)
theorem gl38_17_ok : ∀ (n : Nat) {h : xH} {C : xC} {a0 : Nat} {x1 : Int32} {r : xC} (H : WH h C) (ta0 : tR C (some a0) 3), gl38_17 n a0 x1 C = some r → EX (l38_17 n (some a0) x1 h) (fun z => z) (QC C r) := by
  intro n
  induction n with
  | zero => intros; rename_i hf; cases hf
  | succ n ih =>
    intro h C a0 x1 r H ta0 hf
    have E := Ext.rfl' (C := C)
    replace hf : ((if x1 < 0 then some C else (g35 a0 x1 C).bind fun r_3 => (cR r_3.2 a0 5).bind fun a_7 => (cSt r_3.2 a_7 x1 r_3.1).bind fun C_5 => (g36 a0 x1 r_3.1 C_5).bind fun r_10 => (cR r_10.2 a0 6).bind fun a_13 => (cLd r_10.2 a_13 r_3.1).bind fun v_12 => (cR C_5 a0 6).bind fun a_16 => (cSt r_10.2 a_16 x1 (r_10.1 + v_12)).bind fun C_14 => gl38_57 (gl38_17 n) xFuel a0 x1 r_3.1 (r_3.1 - 1) C_14)) = some r := hf
    unfold l38_17
    by_cases c_1 : x1 < 0
    · replace hf := x_pos c_1 hf
      refine EX.pos c_1 ?_
      obtain rfl := Option.some.inj hf
      exact ⟨_, rfl, H, E⟩
    · replace hf := x_neg c_1 hf
      refine EX.neg c_1 ?_
      have Hc_ := H.cv rfl ta0 (by decide)
      obtain ⟨r_3, er_3, hf⟩ := x_bind hf
      obtain ⟨h_2, eh_2, H, E_⟩ := g35_ok H rfl ta0 er_3
      refine EX.bd Hc_ ?_
      refine EX.bd eh_2 ?_
      dsimp only
      replace ta0 := ta0.up E_
      replace E := E.tr E_
      refine EX.bd (H.gR rfl ta0 (by decide) (by decide) (by decide)) ?_
      have t_4 := H.tyR rfl ta0 (ci := 3) (k := 5) (by decide) (by decide) (by decide)
      obtain ⟨a_7, ea_7, hf⟩ := x_bind hf
      obtain ⟨C_5, eC_5, hf⟩ := x_bind hf
      obtain ⟨h_6, eh_6, H, E_⟩ := H.st (f := fun x => x) ea_7 t_4 (tg := 13) (by decide) (by decide) eC_5
      refine EX.bd eh_6 ?_
      replace ta0 := ta0.up E_
      replace t_4 := t_4.up E_
      replace E := E.tr E_
      refine EX.bd (H.gR rfl ta0 (by decide) (by decide) (by decide)) ?_
      have t_8 := H.tyR rfl ta0 (ci := 3) (k := 6) (by decide) (by decide) (by decide)
      have Hc_ := H.cv rfl ta0 (by decide)
      obtain ⟨r_10, er_10, hf⟩ := x_bind hf
      obtain ⟨h_9, eh_9, H, E_⟩ := g36_ok H rfl ta0 er_10
      refine EX.bd Hc_ ?_
      refine EX.bd eh_9 ?_
      dsimp only
      replace ta0 := ta0.up E_
      replace t_8 := t_8.up E_
      replace t_4 := t_4.up E_
      replace E := E.tr E_
      refine EX.bd (H.gR rfl ta0 (by decide) (by decide) (by decide)) ?_
      have t_11 := H.tyR rfl ta0 (ci := 3) (k := 6) (by decide) (by decide) (by decide)
      obtain ⟨a_13, ea_13, hf⟩ := x_bind hf
      obtain ⟨v_12, ev_12, hf⟩ := x_bind hf
      refine EX.bd (H.ld ea_13 t_11 (by decide) (by decide) ev_12) ?_
      obtain ⟨a_16, ea_16, hf⟩ := x_bind hf
      obtain ⟨C_14, eC_14, hf⟩ := x_bind hf
      obtain ⟨h_15, eh_15, H, E_⟩ := H.st (f := fun x => x) ea_16 t_8 (tg := 13) (by decide) (by decide) eC_14
      refine EX.bd eh_15 ?_
      replace t_11 := t_11.up E_
      replace ta0 := ta0.up E_
      replace t_8 := t_8.up E_
      replace t_4 := t_4.up E_
      replace E := E.tr E_
      exact EX.uC E (gl38_57_ok (k17 := (gl38_17 n)) (f17 := (l38_17 n)) ih xFuel H ta0 hf)
theorem g38_ok {h : xH} {C : xC} {o0 : Option Nat} {a0 : Nat} {r : xC} (H : WH h C) (e0 : o0 = some a0) (ta0 : tR C o0 3) (hf : g38 a0 C = some r) : EX (fn38 o0 h) (fun z => z) (QC C r) := by
  subst e0
  have E := Ext.rfl' (C := C)
  unfold g38 at hf
  unfold fn38
  refine EX.bd (H.gR rfl ta0 (by decide) (by decide) (by decide)) ?_
  have t_1 := H.tyR rfl ta0 (ci := 3) (k := 6) (by decide) (by decide) (by decide)
  refine EX.bd (H.gI rfl ta0 (by decide) (by decide) rfl) ?_
  obtain ⟨a_4, ea_4, hf⟩ := x_bind hf
  obtain ⟨C_2, eC_2, hf⟩ := x_bind hf
  obtain ⟨h_3, eh_3, H, E_⟩ := H.st (f := fun x => x) ea_4 t_1 (tg := 13) (by decide) (by decide) eC_2
  refine EX.bd eh_3 ?_
  replace t_1 := t_1.up E_
  replace ta0 := ta0.up E_
  replace E := E.tr E_
  refine EX.bd (H.gI rfl ta0 (by decide) (by decide) rfl) ?_
  exact EX.uC E (gl38_17_ok xFuel H ta0 hf)
end
