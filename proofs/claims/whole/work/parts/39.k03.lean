section
theorem gl53_2_ok : ∀ (n : Nat) {h : xH} {C : xC} {a0 : Nat} {x1 : Int32} {x2 : Int32} {r : xC} (H : WH h C) (ta0 : tR C (some a0) 5), gl53_2 n a0 x1 x2 C = some r → EX (l53_2 n (some a0) x1 x2 h) (fun z => z) (QC C r) := by
  intro n
  induction n with
  | zero => intros; rename_i hf; cases hf
  | succ n ih =>
    intro h C a0 x1 x2 r H ta0 hf
    have E := Ext.rfl' (C := C)
    replace hf : ((if x1 ≤ x2 then some C else (g52 a0 32 C).bind fun C_3 => gl53_2 n a0 x1 (x2 + 1) C_3)) = some r := hf
    unfold l53_2
    by_cases c_1 : x1 ≤ x2
    · replace hf := x_pos c_1 hf
      refine EX.pos c_1 ?_
      obtain rfl := Option.some.inj hf
      exact ⟨_, rfl, H, E⟩
    · replace hf := x_neg c_1 hf
      refine EX.neg c_1 ?_
      have Hc_ := H.cv rfl ta0 (by decide)
      obtain ⟨C_3, eC_3, hf⟩ := x_bind hf
      obtain ⟨h_2, eh_2, H, E_⟩ := g52_ok H rfl ta0 eC_3
      refine EX.bd Hc_ ?_
      refine EX.bd eh_2 ?_
      replace ta0 := ta0.up E_
      replace E := E.tr E_
      exact EX.uC E (ih H ta0 hf)
theorem g53_ok {h : xH} {C : xC} {o0 : Option Nat} {a0 : Nat} {x1 : Int32} {r : xC} (H : WH h C) (e0 : o0 = some a0) (ta0 : tR C o0 5) (hf : g53 a0 x1 C = some r) : EX (fn53 o0 x1 h) (fun z => z) (QC C r) := by
  subst e0
  have E := Ext.rfl' (C := C)
  unfold g53 at hf
  unfold fn53
  exact EX.uC E (gl53_2_ok xFuel H ta0 hf)
end
section
theorem gj39_147_ok {h : xH} {C : xC} {a0 : Nat} {o1 : Option Nat} {x2 : Int32} {x3 : Int32} {r : xC} (H : WH h C) (ta0 : tR C (some a0) 3) (to1 : tR C o1 5) (hf : gj39_147 a0 o1 x2 x3 C = some r) : EX (j39_147 (some a0) o1 x2 x3 h) (fun z => z) (QC C r) := by
  have E := Ext.rfl' (C := C)
  unfold gj39_147 at hf
  unfold j39_147
  obtain rfl := Option.some.inj hf
  exact ⟨_, rfl, H, E⟩
theorem gl39_77_ok {k15 : Nat → Option Nat → Int32 → Int32 → xC → Option xC} {f15 : Option Nat → Option Nat → Int32 → Int32 → xH → Option xH} (hk15 : ∀ {h : xH} {C : xC} {a0 : Nat} {o1 : Option Nat} {x2 : Int32} {x3 : Int32} {r : xC}, WH h C → tR C (some a0) 3 → tR C o1 5 → k15 a0 o1 x2 x3 C = some r → EX (f15 (some a0) o1 x2 x3 h) (fun z => z) (QC C r)) : ∀ (n : Nat) {h : xH} {C : xC} {a0 : Nat} {o1 : Option Nat} {x2 : Int32} {x3 : Int32} {x4 : Int32} {x5 : Int32} {r : xC} (H : WH h C) (ta0 : tR C (some a0) 3) (to1 : tR C o1 5), gl39_77 k15 n a0 o1 x2 x3 x4 x5 C = some r → EX (l39_77 f15 n (some a0) o1 x2 x3 x4 x5 h) (fun z => z) (QC C r) := by
  intro n
  induction n with
  | zero => intros; rename_i hf; cases hf
  | succ n ih =>
    intro h C a0 o1 x2 x3 x4 x5 r H ta0 to1 hf
    have E := Ext.rfl' (C := C)
    replace hf : ((if x4 ≤ x5 then (o1).bind fun a_4 => (g56 a_4 C).bind fun C_3 => (g36 a0 x2 x4 C_3).bind fun r_6 => (some (uI r_6.2 a_4 5 ((cI C_3 a_4 5) + r_6.1))).bind fun C_7 => k15 a0 o1 x4 (x3 + 1) C_7 else (o1).bind fun a_11 => (g52 a_11 32 C).bind fun C_10 => (g34 a0 x5 C_10).bind fun r_14 => (g34 a0 (x5 + 1) r_14.2).bind fun r_16 => (g54 a_11 (cR C_10 a0 2) r_14.1 r_16.1 r_16.2).bind fun C_18 => gl39_77 k15 n a0 o1 x2 x3 x4 (x5 + 1) C_18)) = some r := hf
    unfold l39_77
    by_cases c_1 : x4 ≤ x5
    · replace hf := x_pos c_1 hf
      refine EX.pos c_1 ?_
      obtain ⟨a_4, ea_4, hf⟩ := x_bind hf
      have Hc_ := H.cv ea_4 to1 (by decide)
      obtain ⟨C_3, eC_3, hf⟩ := x_bind hf
      obtain ⟨h_2, eh_2, H, E_⟩ := g56_ok H ea_4 to1 eC_3
      refine EX.bd Hc_ ?_
      refine EX.bd eh_2 ?_
      replace to1 := to1.up E_
      replace ta0 := ta0.up E_
      replace E := E.tr E_
      refine EX.bd (H.gI ea_4 to1 (by decide) (by decide) rfl) ?_
      have Hc_ := H.cv rfl ta0 (by decide)
      obtain ⟨r_6, er_6, hf⟩ := x_bind hf
      obtain ⟨h_5, eh_5, H, E_⟩ := g36_ok H rfl ta0 er_6
      refine EX.bd Hc_ ?_
      refine EX.bd eh_5 ?_
      dsimp only
      replace to1 := to1.up E_
      replace ta0 := ta0.up E_
      replace E := E.tr E_
      obtain ⟨C_7, eC_7, hf⟩ := x_bind hf
      obtain ⟨h_8, eh_8, H, E_⟩ := H.pI ea_4 to1 (by decide) (by decide) rfl (xfit_int _) eC_7
      refine EX.bd eh_8 ?_
      replace to1 := to1.up E_
      replace ta0 := ta0.up E_
      replace E := E.tr E_
      exact EX.uC E (hk15 H ta0 to1 hf)
    · replace hf := x_neg c_1 hf
      refine EX.neg c_1 ?_
      obtain ⟨a_11, ea_11, hf⟩ := x_bind hf
      have Hc_ := H.cv ea_11 to1 (by decide)
      obtain ⟨C_10, eC_10, hf⟩ := x_bind hf
      obtain ⟨h_9, eh_9, H, E_⟩ := g52_ok H ea_11 to1 eC_10
      refine EX.bd Hc_ ?_
      refine EX.bd eh_9 ?_
      replace to1 := to1.up E_
      replace ta0 := ta0.up E_
      replace E := E.tr E_
      refine EX.bd (H.gR rfl ta0 (by decide) (by decide) (by decide)) ?_
      have t_12 := H.tyR rfl ta0 (ci := 3) (k := 2) (by decide) (by decide) (by decide)
      have Hc_ := H.cv rfl ta0 (by decide)
      obtain ⟨r_14, er_14, hf⟩ := x_bind hf
      obtain ⟨h_13, eh_13, H, E_⟩ := g34_ok H rfl ta0 er_14
      refine EX.bd Hc_ ?_
      refine EX.bd eh_13 ?_
      dsimp only
      replace to1 := to1.up E_
      replace ta0 := ta0.up E_
      replace t_12 := t_12.up E_
      replace E := E.tr E_
      have Hc_ := H.cv rfl ta0 (by decide)
      obtain ⟨r_16, er_16, hf⟩ := x_bind hf
      obtain ⟨h_15, eh_15, H, E_⟩ := g34_ok H rfl ta0 er_16
      refine EX.bd Hc_ ?_
      refine EX.bd eh_15 ?_
      dsimp only
      replace to1 := to1.up E_
      replace ta0 := ta0.up E_
      replace t_12 := t_12.up E_
      replace E := E.tr E_
      have Hc_ := H.cv ea_11 to1 (by decide)
      obtain ⟨C_18, eC_18, hf⟩ := x_bind hf
      obtain ⟨h_17, eh_17, H, E_⟩ := g54_ok H ea_11 to1 t_12 eC_18
      refine EX.bd Hc_ ?_
      refine EX.bd eh_17 ?_
      replace to1 := to1.up E_
      replace ta0 := ta0.up E_
      replace E := E.tr E_
      exact EX.uC E (ih H ta0 to1 hf)
theorem gj39_52_ok {k15 : Nat → Option Nat → Int32 → Int32 → xC → Option xC} {f15 : Option Nat → Option Nat → Int32 → Int32 → xH → Option xH} (hk15 : ∀ {h : xH} {C : xC} {a0 : Nat} {o1 : Option Nat} {x2 : Int32} {x3 : Int32} {r : xC}, WH h C → tR C (some a0) 3 → tR C o1 5 → k15 a0 o1 x2 x3 C = some r → EX (f15 (some a0) o1 x2 x3 h) (fun z => z) (QC C r)) {h : xH} {C : xC} {a0 : Nat} {o1 : Option Nat} {x2 : Int32} {x3 : Int32} {x4 : Int32} {r : xC} (H : WH h C) (ta0 : tR C (some a0) 3) (to1 : tR C o1 5) (hf : gj39_52 k15 a0 o1 x2 x3 x4 C = some r) : EX (j39_52 f15 (some a0) o1 x2 x3 x4 h) (fun z => z) (QC C r) := by
  have E := Ext.rfl' (C := C)
  unfold gj39_52 at hf
  unfold j39_52
  refine EX.bd (H.gR rfl ta0 (by decide) (by decide) (by decide)) ?_
  have t_1 := H.tyR rfl ta0 (ci := 3) (k := 2) (by decide) (by decide) (by decide)
  have Hc_ := H.cv rfl ta0 (by decide)
  obtain ⟨r_3, er_3, hf⟩ := x_bind hf
  obtain ⟨h_2, eh_2, H, E_⟩ := g34_ok H rfl ta0 er_3
  refine EX.bd Hc_ ?_
  refine EX.bd eh_2 ?_
  dsimp only
  replace to1 := to1.up E_
  replace ta0 := ta0.up E_
  replace t_1 := t_1.up E_
  replace E := E.tr E_
  have Hc_ := H.cv rfl ta0 (by decide)
  obtain ⟨r_5, er_5, hf⟩ := x_bind hf
  obtain ⟨h_4, eh_4, H, E_⟩ := g34_ok H rfl ta0 er_5
  refine EX.bd Hc_ ?_
  refine EX.bd eh_4 ?_
  dsimp only
  replace to1 := to1.up E_
  replace ta0 := ta0.up E_
  replace t_1 := t_1.up E_
  replace E := E.tr E_
  obtain ⟨a_8, ea_8, hf⟩ := x_bind hf
  have Hc_ := H.cv ea_8 to1 (by decide)
  obtain ⟨C_7, eC_7, hf⟩ := x_bind hf
  obtain ⟨h_6, eh_6, H, E_⟩ := g54_ok H ea_8 to1 t_1 eC_7
  refine EX.bd Hc_ ?_
  refine EX.bd eh_6 ?_
  replace to1 := to1.up E_
  replace ta0 := ta0.up E_
  replace E := E.tr E_
  exact EX.uC E (gl39_77_ok (k15 := k15) (f15 := f15) hk15 xFuel H ta0 to1 hf)
theorem gl39_15_ok : ∀ (n : Nat) {h : xH} {C : xC} {a0 : Nat} {o1 : Option Nat} {x2 : Int32} {x3 : Int32} {r : xC} (H : WH h C) (ta0 : tR C (some a0) 3) (to1 : tR C o1 5), gl39_15 n a0 o1 x2 x3 C = some r → EX (l39_15 n (some a0) o1 x2 x3 h) (fun z => z) (QC C r) := by
  intro n
  induction n with
  | zero => intros; rename_i hf; cases hf
  | succ n ih =>
    intro h C a0 o1 x2 x3 r H ta0 to1 hf
    have E := Ext.rfl' (C := C)
    replace hf : ((cR C a0 3).bind fun a_2 => (if (Int32.ofNat (cK C a_2).2) ≤ x3 then gj39_147 a0 o1 x2 x3 C else (if (cI C a0 4) ≤ x2 then gj39_147 a0 o1 x2 x3 C else (cR C a0 5).bind fun a_7 => (cLd C a_7 x2).bind fun v_6 => (if x2 ≤ 0 then gj39_52 (gl39_15 n) a0 o1 x2 x3 v_6 C else (o1).bind fun a_11 => (g53 a_11 (cI C a0 9) C).bind fun C_10 => gj39_52 (gl39_15 n) a0 o1 x2 x3 v_6 C_10)))) = some r := hf
    unfold l39_15
    refine EX.bd (H.gR rfl ta0 (by decide) (by decide) (by decide)) ?_
    have t_1 := H.tyR rfl ta0 (ci := 3) (k := 3) (by decide) (by decide) (by decide)
    obtain ⟨a_2, ea_2, hf⟩ := x_bind hf
    refine EX.bd (H.len ea_2 t_1 (by decide) (by decide)) ?_
    by_cases c_3 : (Int32.ofNat (cK C a_2).2) ≤ x3
    · replace hf := x_pos c_3 hf
      refine EX.pos c_3 ?_
      exact EX.uC E (gj39_147_ok H ta0 to1 hf)
    · replace hf := x_neg c_3 hf
      refine EX.neg c_3 ?_
      refine EX.bd (H.gI rfl ta0 (by decide) (by decide) rfl) ?_
      by_cases c_4 : (cI C a0 4) ≤ x2
      · replace hf := x_pos c_4 hf
        refine EX.pos c_4 ?_
        exact EX.uC E (gj39_147_ok H ta0 to1 hf)
      · replace hf := x_neg c_4 hf
        refine EX.neg c_4 ?_
        refine EX.bd (H.gR rfl ta0 (by decide) (by decide) (by decide)) ?_
        have t_5 := H.tyR rfl ta0 (ci := 3) (k := 5) (by decide) (by decide) (by decide)
        obtain ⟨a_7, ea_7, hf⟩ := x_bind hf
        obtain ⟨v_6, ev_6, hf⟩ := x_bind hf
        refine EX.bd (H.ld ea_7 t_5 (by decide) (by decide) ev_6) ?_
        by_cases c_8 : x2 ≤ 0
        · replace hf := x_pos c_8 hf
          refine EX.pos c_8 ?_
          exact EX.uC E (gj39_52_ok (k15 := (gl39_15 n)) (f15 := (l39_15 n)) ih H ta0 to1 hf)
        · replace hf := x_neg c_8 hf
          refine EX.neg c_8 ?_
          refine EX.bd (H.gI rfl ta0 (by decide) (by decide) rfl) ?_
          obtain ⟨a_11, ea_11, hf⟩ := x_bind hf
          have Hc_ := H.cv ea_11 to1 (by decide)
          obtain ⟨C_10, eC_10, hf⟩ := x_bind hf
          obtain ⟨h_9, eh_9, H, E_⟩ := g53_ok H ea_11 to1 eC_10
          refine EX.bd Hc_ ?_
          refine EX.bd eh_9 ?_
          replace to1 := to1.up E_
          replace ta0 := ta0.up E_
          replace t_5 := t_5.up E_
          replace t_1 := t_1.up E_
          replace E := E.tr E_
          exact EX.uC E (gj39_52_ok (k15 := (gl39_15 n)) (f15 := (l39_15 n)) ih H ta0 to1 hf)
theorem gj39_11_ok {h : xH} {C : xC} {a0 : Nat} {o1 : Option Nat} {r : xC} (H : WH h C) (ta0 : tR C (some a0) 3) (to1 : tR C o1 5) (hf : gj39_11 a0 o1 C = some r) : EX (j39_11 (some a0) o1 h) (fun z => z) (QC C r) := by
  have E := Ext.rfl' (C := C)
  unfold gj39_11 at hf
  unfold j39_11
  exact EX.uC E (gl39_15_ok xFuel H ta0 to1 hf)
theorem g39_ok {h : xH} {C : xC} {o0 : Option Nat} {a0 : Nat} {o1 : Option Nat} {r : xC} (H : WH h C) (e0 : o0 = some a0) (ta0 : tR C o0 3) (to1 : tR C o1 5) (hf : g39 a0 o1 C = some r) : EX (fn39 o0 o1 h) (fun z => z) (QC C r) := by
  subst e0
  have E := Ext.rfl' (C := C)
  unfold g39 at hf
  unfold fn39
  refine EX.bd (H.gI rfl ta0 (by decide) (by decide) rfl) ?_
  by_cases c_1 : (cI C a0 4) = 0
  · replace hf := x_pos c_1 hf
    refine EX.pos c_1 ?_
    obtain ⟨a_4, ea_4, hf⟩ := x_bind hf
    have Hc_ := H.cv ea_4 to1 (by decide)
    obtain ⟨C_3, eC_3, hf⟩ := x_bind hf
    obtain ⟨h_2, eh_2, H, E_⟩ := g56_ok H ea_4 to1 eC_3
    refine EX.bd Hc_ ?_
    refine EX.bd eh_2 ?_
    replace to1 := to1.up E_
    replace ta0 := ta0.up E_
    replace E := E.tr E_
    exact EX.uC E (gj39_11_ok H ta0 to1 hf)
  · replace hf := x_neg c_1 hf
    refine EX.neg c_1 ?_
    exact EX.uC E (gj39_11_ok H ta0 to1 hf)
end
section
theorem gj28_119_ok {h : xH} {C : xC} {a0 : Nat} {o1 : Option Nat} {o2 : Option Nat} {x3 : Int32} {x4 : Int32} {x5 : Int32} {r : xC} (H : WH h C) (ta0 : tR C (some a0) 3) (to1 : tR C o1 5) (to2 : tR C o2 0) (hf : gj28_119 a0 o1 o2 x3 x4 x5 C = some r) : EX (j28_119 (some a0) o1 o2 x3 x4 x5 h) (fun z => z) (QC C r) := by
  have E := Ext.rfl' (C := C)
  unfold gj28_119 at hf
  unfold j28_119
  have Hc_ := H.cv rfl ta0 (by decide)
  obtain ⟨C_2, eC_2, hf⟩ := x_bind hf
  obtain ⟨h_1, eh_1, H, E_⟩ := g39_ok H rfl ta0 to1 eC_2
  refine EX.bd Hc_ ?_
  refine EX.bd eh_1 ?_
  replace to1 := to1.up E_
  replace ta0 := ta0.up E_
  replace to2 := to2.up E_
  replace E := E.tr E_
  obtain rfl := Option.some.inj hf
  exact ⟨_, rfl, H, E⟩
theorem gj28_101_ok {h : xH} {C : xC} {a0 : Nat} {o1 : Option Nat} {o2 : Option Nat} {x3 : Int32} {x4 : Int32} {x5 : Int32} {r : xC} (H : WH h C) (ta0 : tR C (some a0) 3) (to1 : tR C o1 5) (to2 : tR C o2 0) (hf : gj28_101 a0 o1 o2 x3 x4 x5 C = some r) : EX (j28_101 (some a0) o1 o2 x3 x4 x5 h) (fun z => z) (QC C r) := by
  have E := Ext.rfl' (C := C)
  unfold gj28_101 at hf
  unfold j28_101
  by_cases c_1 : x4 = 0
  · replace hf := x_pos c_1 hf
    refine EX.pos c_1 ?_
    exact EX.uC E (gj28_119_ok H ta0 to1 to2 hf)
  · replace hf := x_neg c_1 hf
    refine EX.neg c_1 ?_
    refine EX.bd (H.gI rfl ta0 (by decide) (by decide) rfl) ?_
    by_cases c_2 : (cI C a0 4) ≤ 0
    · replace hf := x_pos c_2 hf
      refine EX.pos c_2 ?_
      exact EX.uC E (gj28_119_ok H ta0 to1 to2 hf)
    · replace hf := x_neg c_2 hf
      refine EX.neg c_2 ?_
      obtain ⟨a_5, ea_5, hf⟩ := x_bind hf
      have Hc_ := H.cv ea_5 to1 (by decide)
      obtain ⟨C_4, eC_4, hf⟩ := x_bind hf
      obtain ⟨h_3, eh_3, H, E_⟩ := g52_ok H ea_5 to1 eC_4
      refine EX.bd Hc_ ?_
      refine EX.bd eh_3 ?_
      replace to1 := to1.up E_
      replace ta0 := ta0.up E_
      replace to2 := to2.up E_
      replace E := E.tr E_
      exact EX.uC E (gj28_119_ok H ta0 to1 to2 hf)
theorem gj28_84_ok {h : xH} {C : xC} {a0 : Nat} {o1 : Option Nat} {o2 : Option Nat} {x3 : Int32} {x4 : Int32} {x5 : Int32} {r : xC} (H : WH h C) (ta0 : tR C (some a0) 3) (to1 : tR C o1 5) (to2 : tR C o2 0) (hf : gj28_84 a0 o1 o2 x3 x4 x5 C = some r) : EX (j28_84 (some a0) o1 o2 x3 x4 x5 h) (fun z => z) (QC C r) := by
  have E := Ext.rfl' (C := C)
  unfold gj28_84 at hf
  unfold j28_84
  by_cases c_1 : x4 = 0
  · replace hf := x_pos c_1 hf
    refine EX.pos c_1 ?_
    exact EX.uC E (gj28_101_ok H ta0 to1 to2 hf)
  · replace hf := x_neg c_1 hf
    refine EX.neg c_1 ?_
    obtain ⟨a_4, ea_4, hf⟩ := x_bind hf
    have Hc_ := H.cv ea_4 to1 (by decide)
    obtain ⟨C_3, eC_3, hf⟩ := x_bind hf
    obtain ⟨h_2, eh_2, H, E_⟩ := g53_ok H ea_4 to1 eC_3
    refine EX.bd Hc_ ?_
    refine EX.bd eh_2 ?_
    replace to1 := to1.up E_
    replace ta0 := ta0.up E_
    replace to2 := to2.up E_
    replace E := E.tr E_
    have Hc_ := H.cv ea_4 to1 (by decide)
    obtain ⟨C_6, eC_6, hf⟩ := x_bind hf
    obtain ⟨h_5, eh_5, H, E_⟩ := g52_ok H ea_4 to1 eC_6
    refine EX.bd Hc_ ?_
    refine EX.bd eh_5 ?_
    replace to1 := to1.up E_
    replace ta0 := ta0.up E_
    replace to2 := to2.up E_
    replace E := E.tr E_
    exact EX.uC E (gj28_101_ok H ta0 to1 to2 hf)
theorem gj28_65_ok {h : xH} {C : xC} {a0 : Nat} {o1 : Option Nat} {o2 : Option Nat} {x3 : Int32} {x4 : Int32} {x5 : Int32} {s0 : Nat} {s1 : Int32} {r : xC} (H : WH h C) (ta0 : tR C (some a0) 3) (to1 : tR C o1 5) (to2 : tR C o2 0) (ts0 : tR C (some s0) 3) (hf : gj28_65 a0 o1 o2 x3 x4 x5 s0 s1 C = some r) : EX (j28_65 (some a0) o1 o2 x3 x4 x5 (some s0) s1 h) (fun z => z) (QC C r) := by
  have E := Ext.rfl' (C := C)
  unfold gj28_65 at hf
  unfold j28_65
  obtain ⟨C_1, eC_1, hf⟩ := x_bind hf
  obtain ⟨h_2, eh_2, H, E_⟩ := H.pI rfl ts0 (by decide) (by decide) rfl (xfit_int _) eC_1
  refine EX.bd eh_2 ?_
  replace to1 := to1.up E_
  replace ta0 := ta0.up E_
  replace ts0 := ts0.up E_
  replace to2 := to2.up E_
  replace E := E.tr E_
  by_cases c_3 : x3 = 1
  · replace hf := x_pos c_3 hf
    refine EX.pos c_3 ?_
    have Hc_ := H.cv rfl ta0 (by decide)
    obtain ⟨C_5, eC_5, hf⟩ := x_bind hf
    obtain ⟨h_4, eh_4, H, E_⟩ := g38_ok H rfl ta0 eC_5
    refine EX.bd Hc_ ?_
    refine EX.bd eh_4 ?_
    replace to1 := to1.up E_
    replace ta0 := ta0.up E_
    replace ts0 := ts0.up E_
    replace to2 := to2.up E_
    replace E := E.tr E_
    exact EX.uC E (gj28_84_ok H ta0 to1 to2 hf)
  · replace hf := x_neg c_3 hf
    refine EX.neg c_3 ?_
    have Hc_ := H.cv rfl ta0 (by decide)
    obtain ⟨C_7, eC_7, hf⟩ := x_bind hf
    obtain ⟨h_6, eh_6, H, E_⟩ := g37_ok H rfl ta0 eC_7
    refine EX.bd Hc_ ?_
    refine EX.bd eh_6 ?_
    replace to1 := to1.up E_
    replace ta0 := ta0.up E_
    replace ts0 := ts0.up E_
    replace to2 := to2.up E_
    replace E := E.tr E_
    exact EX.uC E (gj28_84_ok H ta0 to1 to2 hf)
theorem gj28_43_ok {h : xH} {C : xC} {a0 : Nat} {o1 : Option Nat} {o2 : Option Nat} {x3 : Int32} {x4 : Int32} {x5 : Int32} {s0 : Nat} {s1 : Int32} {r : xC} (H : WH h C) (ta0 : tR C (some a0) 3) (to1 : tR C o1 5) (to2 : tR C o2 0) (ts0 : tR C (some s0) 3) (hf : gj28_43 a0 o1 o2 x3 x4 x5 s0 s1 C = some r) : EX (j28_43 (some a0) o1 o2 x3 x4 x5 (some s0) s1 h) (fun z => z) (QC C r) := by
  have E := Ext.rfl' (C := C)
  unfold gj28_43 at hf
  unfold j28_43
  obtain ⟨C_1, eC_1, hf⟩ := x_bind hf
  obtain ⟨h_2, eh_2, H, E_⟩ := H.pI rfl ts0 (by decide) (by decide) rfl (xfit_int _) eC_1
  refine EX.bd eh_2 ?_
  replace to1 := to1.up E_
  replace ta0 := ta0.up E_
  replace ts0 := ts0.up E_
  replace to2 := to2.up E_
  replace E := E.tr E_
  obtain ⟨a_3, ea_3, hf⟩ := x_bind hf
  refine EX.bd (H.gI ea_3 to2 (by decide) (by decide) rfl) ?_
  obtain ⟨r_5, er_5, hf⟩ := x_bind hf
  obtain ⟨h_4, eh_4, H, E_⟩ := g138_ok H er_5
  refine EX.bd eh_4 ?_
  dsimp only
  replace to1 := to1.up E_
  replace ta0 := ta0.up E_
  replace ts0 := ts0.up E_
  replace to2 := to2.up E_
  replace E := E.tr E_
  by_cases c_6 : r_5.1 = 0
  · replace hf := x_pos c_6 hf
    refine EX.pos c_6 ?_
    refine EX.bd (H.gI rfl ta0 (by decide) (by decide) rfl) ?_
    exact EX.uC E (gj28_65_ok H ta0 to1 to2 ta0 hf)
  · replace hf := x_neg c_6 hf
    refine EX.neg c_6 ?_
    exact EX.uC E (gj28_65_ok H ta0 to1 to2 ta0 hf)
theorem gj28_19_ok {h : xH} {C : xC} {a0 : Nat} {o1 : Option Nat} {o2 : Option Nat} {x3 : Int32} {s0 : Int32} {r : xC} (H : WH h C) (ta0 : tR C (some a0) 3) (to1 : tR C o1 5) (to2 : tR C o2 0) (hf : gj28_19 a0 o1 o2 x3 s0 C = some r) : EX (j28_19 (some a0) o1 o2 x3 s0 h) (fun z => z) (QC C r) := by
  have E := Ext.rfl' (C := C)
  unfold gj28_19 at hf
  unfold j28_19
  obtain ⟨a_1, ea_1, hf⟩ := x_bind hf
  refine EX.bd (H.gI ea_1 to2 (by decide) (by decide) rfl) ?_
  by_cases c_2 : s0 = 0
  · replace hf := x_pos c_2 hf
    refine EX.pos c_2 ?_
    exact EX.uC E (gj28_43_ok H ta0 to1 to2 ta0 hf)
  · replace hf := x_neg c_2 hf
    refine EX.neg c_2 ?_
    exact EX.uC E (gj28_43_ok H ta0 to1 to2 ta0 hf)
theorem g28_ok {h : xH} {C : xC} {o0 : Option Nat} {a0 : Nat} {o1 : Option Nat} {o2 : Option Nat} {x3 : Int32} {r : xC} (H : WH h C) (e0 : o0 = some a0) (ta0 : tR C o0 3) (to1 : tR C o1 5) (to2 : tR C o2 0) (hf : g28 a0 o1 o2 x3 C = some r) : EX (fn28 o0 o1 o2 x3 h) (fun z => z) (QC C r) := by
  subst e0
  have E := Ext.rfl' (C := C)
  unfold g28 at hf
  unfold fn28
  have Hc_ := H.cv rfl ta0 (by decide)
  obtain ⟨C_2, eC_2, hf⟩ := x_bind hf
  obtain ⟨h_1, eh_1, H, E_⟩ := g29_ok H rfl ta0 to1 to2 eC_2
  refine EX.bd Hc_ ?_
  refine EX.bd eh_1 ?_
  replace to1 := to1.up E_
  replace ta0 := ta0.up E_
  replace to2 := to2.up E_
  replace E := E.tr E_
  obtain ⟨a_3, ea_3, hf⟩ := x_bind hf
  refine EX.bd (H.gI ea_3 to2 (by decide) (by decide) rfl) ?_
  by_cases c_4 : (cI C_2 a_3 1) = 1
  · replace hf := x_pos c_4 hf
    refine EX.pos c_4 ?_
    exact EX.uC E (gj28_19_ok H ta0 to1 to2 hf)
  · replace hf := x_neg c_4 hf
    refine EX.neg c_4 ?_
    exact EX.uC E (gj28_19_ok H ta0 to1 to2 hf)
end
section
theorem g51_ok {h : xH} {C : xC} {o0 : Option Nat} {a0 : Nat} {r : xC} (H : WH h C) (e0 : o0 = some a0) (ta0 : tR C o0 5) (hf : g51 a0 C = some r) : EX (fn51 o0 h) (fun z => z) (QC C r) := by
  subst e0
  have E := Ext.rfl' (C := C)
  unfold g51 at hf
  unfold fn51
  refine EX.bd (H.gR rfl ta0 (by decide) (by decide) (by decide)) ?_
  have t_1 := H.tyR rfl ta0 (ci := 5) (k := 0) (by decide) (by decide) (by decide)
  obtain ⟨a_4, ea_4, hf⟩ := x_bind hf
  have Hc_ := H.cv ea_4 t_1 (by decide)
  obtain ⟨C_3, eC_3, hf⟩ := x_bind hf
  obtain ⟨h_2, eh_2, H, E_⟩ := g101_ok H ea_4 t_1 eC_3
  refine EX.bd Hc_ ?_
  refine EX.bd eh_2 ?_
  replace t_1 := t_1.up E_
  replace ta0 := ta0.up E_
  replace E := E.tr E_
  obtain ⟨C_5, eC_5, hf⟩ := x_bind hf
  obtain ⟨h_6, eh_6, H, E_⟩ := H.pI rfl ta0 (by decide) (by decide) rfl (xfit_int _) eC_5
  refine EX.bd eh_6 ?_
  replace t_1 := t_1.up E_
  replace ta0 := ta0.up E_
  replace E := E.tr E_
  obtain ⟨C_7, eC_7, hf⟩ := x_bind hf
  obtain ⟨h_8, eh_8, H, E_⟩ := H.pI rfl ta0 (by decide) (by decide) rfl (xfit_int _) eC_7
  refine EX.bd eh_8 ?_
  replace t_1 := t_1.up E_
  replace ta0 := ta0.up E_
  replace E := E.tr E_
  obtain ⟨C_9, eC_9, hf⟩ := x_bind hf
  obtain ⟨h_10, eh_10, H, E_⟩ := H.pI rfl ta0 (by decide) (by decide) rfl (xfit_int _) eC_9
  refine EX.bd eh_10 ?_
  replace t_1 := t_1.up E_
  replace ta0 := ta0.up E_
  replace E := E.tr E_
  obtain ⟨C_11, eC_11, hf⟩ := x_bind hf
  obtain ⟨h_12, eh_12, H, E_⟩ := H.pI rfl ta0 (by decide) (by decide) rfl (xfit_int _) eC_11
  refine EX.bd eh_12 ?_
  replace t_1 := t_1.up E_
  replace ta0 := ta0.up E_
  replace E := E.tr E_
  obtain ⟨C_13, eC_13, hf⟩ := x_bind hf
  obtain ⟨h_14, eh_14, H, E_⟩ := H.pI rfl ta0 (by decide) (by decide) rfl (xfit_int _) eC_13
  refine EX.bd eh_14 ?_
  replace t_1 := t_1.up E_
  replace ta0 := ta0.up E_
  replace E := E.tr E_
  obtain ⟨C_15, eC_15, hf⟩ := x_bind hf
  obtain ⟨h_16, eh_16, H, E_⟩ := H.pI rfl ta0 (by decide) (by decide) rfl (show xfit .boolean (.int 0) = true by decide) eC_15
  refine EX.bd eh_16 ?_
  replace t_1 := t_1.up E_
  replace ta0 := ta0.up E_
  replace E := E.tr E_
  obtain rfl := Option.some.inj hf
  exact ⟨_, rfl, H, E⟩
end
section
theorem gj24_95_ok {h : xH} {C : xC} {a0 : Nat} {o1 : Option Nat} {o2 : Option Nat} {x3 : Int32} {x4 : Int32} {o5 : Option Nat} {x6 : Int32} {r : xC} (H : WH h C) (ta0 : tR C (some a0) 3) (to1 : tR C o1 5) (to2 : tR C o2 2) (to5 : tR C o5 0) (hf : gj24_95 a0 o1 o2 x3 x4 o5 x6 C = some r) : EX (j24_95 (some a0) o1 o2 x3 x4 o5 x6 h) (fun z => z) (QC C r) := by
  have E := Ext.rfl' (C := C)
  unfold gj24_95 at hf
  unfold j24_95
  have Hc_ := H.cv rfl ta0 (by decide)
  obtain ⟨C_2, eC_2, hf⟩ := x_bind hf
  obtain ⟨h_1, eh_1, H, E_⟩ := g26_ok H rfl ta0 to1 eC_2
  refine EX.bd Hc_ ?_
  refine EX.bd eh_1 ?_
  replace to1 := to1.up E_
  replace to5 := to5.up E_
  replace ta0 := ta0.up E_
  replace to2 := to2.up E_
  replace E := E.tr E_
  obtain rfl := Option.some.inj hf
  exact ⟨_, rfl, H, E⟩
theorem gj24_89_ok {k24 : Nat → Option Nat → Option Nat → Int32 → Int32 → Option Nat → Int32 → xC → Option xC} {f24 : Option Nat → Option Nat → Option Nat → Int32 → Int32 → Option Nat → Int32 → xH → Option xH} (hk24 : ∀ {h : xH} {C : xC} {a0 : Nat} {o1 : Option Nat} {o2 : Option Nat} {x3 : Int32} {x4 : Int32} {o5 : Option Nat} {x6 : Int32} {r : xC}, WH h C → tR C (some a0) 3 → tR C o1 5 → tR C o2 2 → tR C o5 0 → k24 a0 o1 o2 x3 x4 o5 x6 C = some r → EX (f24 (some a0) o1 o2 x3 x4 o5 x6 h) (fun z => z) (QC C r)) {h : xH} {C : xC} {a0 : Nat} {o1 : Option Nat} {o2 : Option Nat} {x3 : Int32} {x4 : Int32} {o5 : Option Nat} {x6 : Int32} {o7 : Option Nat} {r : xC} (H : WH h C) (ta0 : tR C (some a0) 3) (to1 : tR C o1 5) (to2 : tR C o2 2) (to5 : tR C o5 0) (to7 : tR C o7 0) (hf : gj24_89 k24 a0 o1 o2 x3 x4 o5 x6 o7 C = some r) : EX (j24_89 f24 (some a0) o1 o2 x3 x4 o5 x6 o7 h) (fun z => z) (QC C r) := by
  have E := Ext.rfl' (C := C)
  unfold gj24_89 at hf
  unfold j24_89
  exact EX.uC E (hk24 H ta0 to1 to2 to5 hf)
theorem gj24_76_ok {k24 : Nat → Option Nat → Option Nat → Int32 → Int32 → Option Nat → Int32 → xC → Option xC} {f24 : Option Nat → Option Nat → Option Nat → Int32 → Int32 → Option Nat → Int32 → xH → Option xH} (hk24 : ∀ {h : xH} {C : xC} {a0 : Nat} {o1 : Option Nat} {o2 : Option Nat} {x3 : Int32} {x4 : Int32} {o5 : Option Nat} {x6 : Int32} {r : xC}, WH h C → tR C (some a0) 3 → tR C o1 5 → tR C o2 2 → tR C o5 0 → k24 a0 o1 o2 x3 x4 o5 x6 C = some r → EX (f24 (some a0) o1 o2 x3 x4 o5 x6 h) (fun z => z) (QC C r)) {h : xH} {C : xC} {a0 : Nat} {o1 : Option Nat} {o2 : Option Nat} {x3 : Int32} {x4 : Int32} {o5 : Option Nat} {x6 : Int32} {o7 : Option Nat} {r : xC} (H : WH h C) (ta0 : tR C (some a0) 3) (to1 : tR C o1 5) (to2 : tR C o2 2) (to5 : tR C o5 0) (to7 : tR C o7 0) (hf : gj24_76 k24 a0 o1 o2 x3 x4 o5 x6 o7 C = some r) : EX (j24_76 f24 (some a0) o1 o2 x3 x4 o5 x6 o7 h) (fun z => z) (QC C r) := by
  have E := Ext.rfl' (C := C)
  unfold gj24_76 at hf
  unfold j24_76
  have Hc_ := H.cv rfl ta0 (by decide)
  obtain ⟨C_2, eC_2, hf⟩ := x_bind hf
  obtain ⟨h_1, eh_1, H, E_⟩ := g28_ok H rfl ta0 to1 to7 eC_2
  refine EX.bd Hc_ ?_
  refine EX.bd eh_1 ?_
  replace to7 := to7.up E_
  replace to5 := to5.up E_
  replace ta0 := ta0.up E_
  replace to2 := to2.up E_
  replace to1 := to1.up E_
  replace E := E.tr E_
  exact EX.uC E (gj24_89_ok (k24 := k24) (f24 := f24) hk24 H ta0 to1 to2 to7 to7 hf)
theorem gl24_24_ok : ∀ (n : Nat) {h : xH} {C : xC} {a0 : Nat} {o1 : Option Nat} {o2 : Option Nat} {x3 : Int32} {x4 : Int32} {o5 : Option Nat} {x6 : Int32} {r : xC} (H : WH h C) (ta0 : tR C (some a0) 3) (to1 : tR C o1 5) (to2 : tR C o2 2) (to5 : tR C o5 0), gl24_24 n a0 o1 o2 x3 x4 o5 x6 C = some r → EX (l24_24 n (some a0) o1 o2 x3 x4 o5 x6 h) (fun z => z) (QC C r) := by
  intro n
  induction n with
  | zero => intros; rename_i hf; cases hf
  | succ n ih =>
    intro h C a0 o1 o2 x3 x4 o5 x6 r H ta0 to1 to2 to5 hf
    have E := Ext.rfl' (C := C)
    replace hf : ((if (cI C a0 1) ≤ x6 then gj24_95 a0 o1 o2 x3 x4 o5 x6 C else (o1).bind fun a_2 => (if (cI C a_2 8) = 0 then (cR C a0 0).bind fun a_6 => (cLR C a_6 x6).bind fun o_5 => (if o_5 = none then gj24_89 (gl24_24 n) a0 o1 o2 x3 x4 o5 x6 o_5 C else (o_5).bind fun a_9 => (if (cR C a_9 0) = none then gj24_89 (gl24_24 n) a0 o1 o2 x3 x4 o5 x6 o_5 C else (g25 o5 o_5 C).bind fun r_13 => (if r_13.1 = 0 then gj24_76 (gl24_24 n) a0 o1 o2 x3 x4 o5 x6 o_5 r_13.2 else (g56 a_2 r_13.2).bind fun C_16 => gj24_76 (gl24_24 n) a0 o1 o2 x3 x4 o5 x6 o_5 C_16))) else gj24_95 a0 o1 o2 x3 x4 o5 x6 C))) = some r := hf
    unfold l24_24
    refine EX.bd (H.gI rfl ta0 (by decide) (by decide) rfl) ?_
    by_cases c_1 : (cI C a0 1) ≤ x6
    · replace hf := x_pos c_1 hf
      refine EX.pos c_1 ?_
      exact EX.uC E (gj24_95_ok H ta0 to1 to2 to5 hf)
    · replace hf := x_neg c_1 hf
      refine EX.neg c_1 ?_
      obtain ⟨a_2, ea_2, hf⟩ := x_bind hf
      refine EX.bd (H.gI ea_2 to1 (by decide) (by decide) rfl) ?_
      by_cases c_3 : (cI C a_2 8) = 0
      · replace hf := x_pos c_3 hf
        refine EX.pos c_3 ?_
        refine EX.bd (H.gR rfl ta0 (by decide) (by decide) (by decide)) ?_
        have t_4 := H.tyR rfl ta0 (ci := 3) (k := 0) (by decide) (by decide) (by decide)
        obtain ⟨a_6, ea_6, hf⟩ := x_bind hf
        obtain ⟨o_5, eo_5, hf⟩ := x_bind hf
        refine EX.bd (H.lR ea_6 t_4 (by decide) (by decide) eo_5) ?_
        have t_7 := H.tL ea_6 t_4 (ci := 15) (by decide) (by decide) eo_5
        by_cases c_8 : o_5 = none
        · replace hf := x_pos c_8 hf
          refine EX.pos c_8 ?_
          exact EX.uC E (gj24_89_ok (k24 := (gl24_24 n)) (f24 := (l24_24 n)) ih H ta0 to1 to2 to5 t_7 hf)
        · replace hf := x_neg c_8 hf
          refine EX.neg c_8 ?_
          obtain ⟨a_9, ea_9, hf⟩ := x_bind hf
          refine EX.bd (H.gR ea_9 t_7 (by decide) (by decide) (by decide)) ?_
          have t_10 := H.tyR ea_9 t_7 (ci := 0) (k := 0) (by decide) (by decide) (by decide)
          by_cases c_11 : (cR C a_9 0) = none
          · replace hf := x_pos c_11 hf
            refine EX.pos c_11 ?_
            exact EX.uC E (gj24_89_ok (k24 := (gl24_24 n)) (f24 := (l24_24 n)) ih H ta0 to1 to2 to5 t_7 hf)
          · replace hf := x_neg c_11 hf
            refine EX.neg c_11 ?_
            obtain ⟨r_13, er_13, hf⟩ := x_bind hf
            obtain ⟨h_12, eh_12, H, E_⟩ := g25_ok H to5 t_7 er_13
            refine EX.bd eh_12 ?_
            dsimp only
            replace t_7 := t_7.up E_
            replace to5 := to5.up E_
            replace ta0 := ta0.up E_
            replace to2 := to2.up E_
            replace t_4 := t_4.up E_
            replace to1 := to1.up E_
            replace E := E.tr E_
            by_cases c_14 : r_13.1 = 0
            · replace hf := x_pos c_14 hf
              refine EX.pos c_14 ?_
              exact EX.uC E (gj24_76_ok (k24 := (gl24_24 n)) (f24 := (l24_24 n)) ih H ta0 to1 to2 to5 t_7 hf)
            · replace hf := x_neg c_14 hf
              refine EX.neg c_14 ?_
              have Hc_ := H.cv ea_2 to1 (by decide)
              obtain ⟨C_16, eC_16, hf⟩ := x_bind hf
              obtain ⟨h_15, eh_15, H, E_⟩ := g56_ok H ea_2 to1 eC_16
              refine EX.bd Hc_ ?_
              refine EX.bd eh_15 ?_
              replace t_7 := t_7.up E_
              replace to5 := to5.up E_
              replace ta0 := ta0.up E_
              replace to2 := to2.up E_
              replace t_4 := t_4.up E_
              replace to1 := to1.up E_
              replace E := E.tr E_
              exact EX.uC E (gj24_76_ok (k24 := (gl24_24 n)) (f24 := (l24_24 n)) ih H ta0 to1 to2 to5 t_7 hf)
      · replace hf := x_neg c_3 hf
        refine EX.neg c_3 ?_
        exact EX.uC E (gj24_95_ok H ta0 to1 to2 to5 hf)
theorem g24_ok {h : xH} {C : xC} {o0 : Option Nat} {a0 : Nat} {o1 : Option Nat} {o2 : Option Nat} {x3 : Int32} {x4 : Int32} {r : xC} (H : WH h C) (e0 : o0 = some a0) (ta0 : tR C o0 3) (to1 : tR C o1 5) (to2 : tR C o2 2) (hf : g24 a0 o1 o2 x3 x4 C = some r) : EX (fn24 o0 o1 o2 x3 x4 h) (fun z => z) (QC C r) := by
  subst e0
  have E := Ext.rfl' (C := C)
  unfold g24 at hf
  unfold fn24
  obtain ⟨C_1, eC_1, hf⟩ := x_bind hf
  obtain ⟨h_2, eh_2, H, E_⟩ := H.pI rfl ta0 (by decide) (by decide) rfl (xfit_int _) eC_1
  refine EX.bd eh_2 ?_
  replace to1 := to1.up E_
  replace ta0 := ta0.up E_
  replace to2 := to2.up E_
  replace E := E.tr E_
  obtain ⟨a_5, ea_5, hf⟩ := x_bind hf
  have Hc_ := H.cv ea_5 to1 (by decide)
  obtain ⟨C_4, eC_4, hf⟩ := x_bind hf
  obtain ⟨h_3, eh_3, H, E_⟩ := g51_ok H ea_5 to1 eC_4
  refine EX.bd Hc_ ?_
  refine EX.bd eh_3 ?_
  replace to1 := to1.up E_
  replace ta0 := ta0.up E_
  replace to2 := to2.up E_
  replace E := E.tr E_
  have Hc_ := H.cv ea_5 to1 (by decide)
  obtain ⟨C_7, eC_7, hf⟩ := x_bind hf
  obtain ⟨h_6, eh_6, H, E_⟩ := g55_ok H ea_5 to1 to2 eC_7
  refine EX.bd Hc_ ?_
  refine EX.bd eh_6 ?_
  replace to1 := to1.up E_
  replace ta0 := ta0.up E_
  replace to2 := to2.up E_
  replace E := E.tr E_
  have Hc_ := H.cv ea_5 to1 (by decide)
  obtain ⟨C_9, eC_9, hf⟩ := x_bind hf
  obtain ⟨h_8, eh_8, H, E_⟩ := g56_ok H ea_5 to1 eC_9
  refine EX.bd Hc_ ?_
  refine EX.bd eh_8 ?_
  replace to1 := to1.up E_
  replace ta0 := ta0.up E_
  replace to2 := to2.up E_
  replace E := E.tr E_
  exact EX.uC E (gl24_24_ok xFuel H ta0 to1 to2 tR_none hf)
end
section
theorem g40_ok {h : xH} {C : xC} {o0 : Option Nat} {a0 : Nat} {r : xC} (H : WH h C) (e0 : o0 = some a0) (ta0 : tR C o0 4) (hf : g40 a0 C = some r) : EX (fn40 o0 h) (fun z => z) (QC C r) := by
  subst e0
  have E := Ext.rfl' (C := C)
  unfold g40 at hf
  unfold fn40
  refine EX.bdS ?_
  obtain ⟨C_1, eC_1, hf⟩ := x_bind hf
  obtain ⟨h_2, eh_2, N_, t_3, H, E_⟩ := H.nAI (tg := 13) (by decide) (by decide) eC_1
  refine EX.bd eh_2 ?_
  rw [N_]
  replace ta0 := ta0.up E_
  replace E := E.tr E_
  obtain ⟨C_4, eC_4, hf⟩ := x_bind hf
  obtain ⟨h_5, eh_5, H, E_⟩ := H.pR (ci := 4) (k := 0) (ty := (.array .int)) rfl ta0 t_3 (by decide) (by decide) (by decide) rfl rfl eC_4
  refine EX.bd eh_5 ?_
  replace t_3 := t_3.up E_
  replace ta0 := ta0.up E_
  replace E := E.tr E_
  obtain ⟨C_6, eC_6, hf⟩ := x_bind hf
  obtain ⟨h_7, eh_7, N_, t_8, H, E_⟩ := H.nAI (tg := 13) (by decide) (by decide) eC_6
  refine EX.bd eh_7 ?_
  rw [N_]
  replace t_3 := t_3.up E_
  replace ta0 := ta0.up E_
  replace E := E.tr E_
  obtain ⟨C_9, eC_9, hf⟩ := x_bind hf
  obtain ⟨h_10, eh_10, H, E_⟩ := H.pR (ci := 4) (k := 1) (ty := (.array .int)) rfl ta0 t_8 (by decide) (by decide) (by decide) rfl rfl eC_9
  refine EX.bd eh_10 ?_
  replace t_3 := t_3.up E_
  replace ta0 := ta0.up E_
  replace t_8 := t_8.up E_
  replace E := E.tr E_
  obtain rfl := Option.some.inj hf
  exact ⟨_, rfl, H, E⟩
end
section
theorem gj41_54_ok {h : xH} {C : xC} {a0 : Nat} {x1 : Int32} {x2 : Int32} {r : xC} (H : WH h C) (ta0 : tR C (some a0) 4) (hf : gj41_54 a0 x1 x2 C = some r) : EX (j41_54 (some a0) x1 x2 h) (fun z => z) (QC C r) := by
  have E := Ext.rfl' (C := C)
  unfold gj41_54 at hf
  unfold j41_54
  obtain rfl := Option.some.inj hf
  exact ⟨_, rfl, H, E⟩
theorem g41_ok {h : xH} {C : xC} {o0 : Option Nat} {a0 : Nat} {x1 : Int32} {x2 : Int32} {r : xC} (H : WH h C) (e0 : o0 = some a0) (ta0 : tR C o0 4) (hf : g41 a0 x1 x2 C = some r) : EX (fn41 o0 x1 x2 h) (fun z => z) (QC C r) := by
  subst e0
  have E := Ext.rfl' (C := C)
  unfold g41 at hf
  unfold fn41
  refine EX.bd (H.gI rfl ta0 (by decide) (by decide) rfl) ?_
  refine EX.bd (H.gR rfl ta0 (by decide) (by decide) (by decide)) ?_
  have t_1 := H.tyR rfl ta0 (ci := 4) (k := 0) (by decide) (by decide) (by decide)
  obtain ⟨a_2, ea_2, hf⟩ := x_bind hf
  refine EX.bd (H.len ea_2 t_1 (by decide) (by decide)) ?_
  by_cases c_3 : (Int32.ofNat (cK C a_2).2) ≤ (cI C a0 2)
  · replace hf := x_pos c_3 hf
    refine EX.pos c_3 ?_
    exact EX.uC E (gj41_54_ok H ta0 hf)
  · replace hf := x_neg c_3 hf
    refine EX.neg c_3 ?_
    refine EX.bd (H.gI rfl ta0 (by decide) (by decide) rfl) ?_
    refine EX.bd (H.gR rfl ta0 (by decide) (by decide) (by decide)) ?_
    have t_4 := H.tyR rfl ta0 (ci := 4) (k := 1) (by decide) (by decide) (by decide)
    obtain ⟨a_5, ea_5, hf⟩ := x_bind hf
    refine EX.bd (H.len ea_5 t_4 (by decide) (by decide)) ?_
    by_cases c_6 : (Int32.ofNat (cK C a_5).2) ≤ (cI C a0 2)
    · replace hf := x_pos c_6 hf
      refine EX.pos c_6 ?_
      exact EX.uC E (gj41_54_ok H ta0 hf)
    · replace hf := x_neg c_6 hf
      refine EX.neg c_6 ?_
      refine EX.bd (H.gR rfl ta0 (by decide) (by decide) (by decide)) ?_
      refine EX.bd (H.gI rfl ta0 (by decide) (by decide) rfl) ?_
      obtain ⟨C_7, eC_7, hf⟩ := x_bind hf
      obtain ⟨h_8, eh_8, H, E_⟩ := H.st (f := fun x => x) ea_2 t_1 (tg := 13) (by decide) (by decide) eC_7
      refine EX.bd eh_8 ?_
      replace t_1 := t_1.up E_
      replace ta0 := ta0.up E_
      replace t_4 := t_4.up E_
      replace E := E.tr E_
      refine EX.bd (H.gR rfl ta0 (by decide) (by decide) (by decide)) ?_
      have t_9 := H.tyR rfl ta0 (ci := 4) (k := 1) (by decide) (by decide) (by decide)
      refine EX.bd (H.gI rfl ta0 (by decide) (by decide) rfl) ?_
      obtain ⟨a_12, ea_12, hf⟩ := x_bind hf
      obtain ⟨C_10, eC_10, hf⟩ := x_bind hf
      obtain ⟨h_11, eh_11, H, E_⟩ := H.st (f := fun x => x) ea_12 t_9 (tg := 13) (by decide) (by decide) eC_10
      refine EX.bd eh_11 ?_
      replace t_1 := t_1.up E_
      replace t_9 := t_9.up E_
      replace ta0 := ta0.up E_
      replace t_4 := t_4.up E_
      replace E := E.tr E_
      refine EX.bd (H.gI rfl ta0 (by decide) (by decide) rfl) ?_
      obtain ⟨C_13, eC_13, hf⟩ := x_bind hf
      obtain ⟨h_14, eh_14, H, E_⟩ := H.pI rfl ta0 (by decide) (by decide) rfl (xfit_int _) eC_13
      refine EX.bd eh_14 ?_
      replace t_1 := t_1.up E_
      replace t_9 := t_9.up E_
      replace ta0 := ta0.up E_
      replace t_4 := t_4.up E_
      replace E := E.tr E_
      exact EX.uC E (gj41_54_ok H ta0 hf)
end
section
theorem gj44_77_ok {k25 : Nat → Option Nat → Option Nat → Int32 → xC → Option xC} {f25 : Option Nat → Option Nat → Option Nat → Int32 → xH → Option xH} (hk25 : ∀ {h : xH} {C : xC} {a0 : Nat} {o1 : Option Nat} {o2 : Option Nat} {x3 : Int32} {r : xC}, WH h C → tR C (some a0) 4 → tR C o1 1 → tR C o2 0 → k25 a0 o1 o2 x3 C = some r → EX (f25 (some a0) o1 o2 x3 h) (fun z => z) (QC C r)) {h : xH} {C : xC} {a0 : Nat} {o1 : Option Nat} {o2 : Option Nat} {x3 : Int32} {o4 : Option Nat} {r : xC} (H : WH h C) (ta0 : tR C (some a0) 4) (to1 : tR C o1 1) (to2 : tR C o2 0) (to4 : tR C o4 6) (hf : gj44_77 k25 a0 o1 o2 x3 o4 C = some r) : EX (j44_77 f25 (some a0) o1 o2 x3 o4 h) (fun z => z) (QC C r) := by
  have E := Ext.rfl' (C := C)
  unfold gj44_77 at hf
  unfold j44_77
  exact EX.uC E (hk25 H ta0 to1 to2 hf)
theorem gl44_25_ok : ∀ (n : Nat) {h : xH} {C : xC} {a0 : Nat} {o1 : Option Nat} {o2 : Option Nat} {x3 : Int32} {r : xC} (H : WH h C) (ta0 : tR C (some a0) 4) (to1 : tR C o1 1) (to2 : tR C o2 0), gl44_25 n a0 o1 o2 x3 C = some r → EX (l44_25 n (some a0) o1 o2 x3 h) (fun z => z) (QC C r) := by
  intro n
  induction n with
  | zero => intros; rename_i hf; cases hf
  | succ n ih =>
    intro h C a0 o1 o2 x3 r H ta0 to1 to2 hf
    have E := Ext.rfl' (C := C)
    replace hf : ((o2).bind fun a_1 => (if (cI C a_1 5) ≤ x3 then some C else (o1).bind fun a_5 => (g6 a_5 ((cI C a_1 4) + x3) C).bind fun r_4 => (if r_4.1 = none then gj44_77 (gl44_25 n) a0 o1 o2 x3 r_4.1 r_4.2 else (r_4.1).bind fun a_8 => (if (cI r_4.2 a_8 0) = 2 then (if (cR r_4.2 a_8 7) = none then (g41 a0 2 (cI r_4.2 a_8 1) r_4.2).bind fun C_13 => gj44_77 (gl44_25 n) a0 o1 o2 x3 r_4.1 C_13 else gj44_77 (gl44_25 n) a0 o1 o2 x3 r_4.1 r_4.2) else gj44_77 (gl44_25 n) a0 o1 o2 x3 r_4.1 r_4.2)))) = some r := hf
    unfold l44_25
    obtain ⟨a_1, ea_1, hf⟩ := x_bind hf
    refine EX.bd (H.gI ea_1 to2 (by decide) (by decide) rfl) ?_
    by_cases c_2 : (cI C a_1 5) ≤ x3
    · replace hf := x_pos c_2 hf
      refine EX.pos c_2 ?_
      obtain rfl := Option.some.inj hf
      exact ⟨_, rfl, H, E⟩
    · replace hf := x_neg c_2 hf
      refine EX.neg c_2 ?_
      refine EX.bd (H.gI ea_1 to2 (by decide) (by decide) rfl) ?_
      obtain ⟨a_5, ea_5, hf⟩ := x_bind hf
      have Hc_ := H.cv ea_5 to1 (by decide)
      obtain ⟨r_4, er_4, hf⟩ := x_bind hf
      obtain ⟨h_3, eh_3, H, E_, t_6⟩ := g6_ok H ea_5 to1 er_4
      refine EX.bd Hc_ ?_
      refine EX.bd eh_3 ?_
      dsimp only
      replace to1 := to1.up E_
      replace ta0 := ta0.up E_
      replace to2 := to2.up E_
      replace E := E.tr E_
      by_cases c_7 : r_4.1 = none
      · replace hf := x_pos c_7 hf
        refine EX.pos c_7 ?_
        exact EX.uC E (gj44_77_ok (k25 := (gl44_25 n)) (f25 := (l44_25 n)) ih H ta0 to1 to2 t_6 hf)
      · replace hf := x_neg c_7 hf
        refine EX.neg c_7 ?_
        obtain ⟨a_8, ea_8, hf⟩ := x_bind hf
        refine EX.bd (H.gI ea_8 t_6 (by decide) (by decide) rfl) ?_
        by_cases c_9 : (cI r_4.2 a_8 0) = 2
        · replace hf := x_pos c_9 hf
          refine EX.pos c_9 ?_
          refine EX.bd (H.gR ea_8 t_6 (by decide) (by decide) (by decide)) ?_
          have t_10 := H.tyR ea_8 t_6 (ci := 6) (k := 7) (by decide) (by decide) (by decide)
          by_cases c_11 : (cR r_4.2 a_8 7) = none
          · replace hf := x_pos c_11 hf
            refine EX.pos c_11 ?_
            refine EX.bd (H.gI ea_8 t_6 (by decide) (by decide) rfl) ?_
            have Hc_ := H.cv rfl ta0 (by decide)
            obtain ⟨C_13, eC_13, hf⟩ := x_bind hf
            obtain ⟨h_12, eh_12, H, E_⟩ := g41_ok H rfl ta0 eC_13
            refine EX.bd Hc_ ?_
            refine EX.bd eh_12 ?_
            replace to1 := to1.up E_
            replace ta0 := ta0.up E_
            replace t_6 := t_6.up E_
            replace to2 := to2.up E_
            replace E := E.tr E_
            exact EX.uC E (gj44_77_ok (k25 := (gl44_25 n)) (f25 := (l44_25 n)) ih H ta0 to1 to2 t_6 hf)
          · replace hf := x_neg c_11 hf
            refine EX.neg c_11 ?_
            exact EX.uC E (gj44_77_ok (k25 := (gl44_25 n)) (f25 := (l44_25 n)) ih H ta0 to1 to2 t_6 hf)
        · replace hf := x_neg c_9 hf
          refine EX.neg c_9 ?_
          exact EX.uC E (gj44_77_ok (k25 := (gl44_25 n)) (f25 := (l44_25 n)) ih H ta0 to1 to2 t_6 hf)
theorem gj44_23_ok {h : xH} {C : xC} {a0 : Nat} {o1 : Option Nat} {o2 : Option Nat} {r : xC} (H : WH h C) (ta0 : tR C (some a0) 4) (to1 : tR C o1 1) (to2 : tR C o2 0) (hf : gj44_23 a0 o1 o2 C = some r) : EX (j44_23 (some a0) o1 o2 h) (fun z => z) (QC C r) := by
  have E := Ext.rfl' (C := C)
  unfold gj44_23 at hf
  unfold j44_23
  exact EX.uC E (gl44_25_ok xFuel H ta0 to1 to2 hf)
theorem g44_ok {h : xH} {C : xC} {o0 : Option Nat} {a0 : Nat} {o1 : Option Nat} {o2 : Option Nat} {r : xC} (H : WH h C) (e0 : o0 = some a0) (ta0 : tR C o0 4) (to1 : tR C o1 1) (to2 : tR C o2 0) (hf : g44 a0 o1 o2 C = some r) : EX (fn44 o0 o1 o2 h) (fun z => z) (QC C r) := by
  subst e0
  have E := Ext.rfl' (C := C)
  unfold g44 at hf
  unfold fn44
  obtain ⟨a_3, ea_3, hf⟩ := x_bind hf
  have Hc_ := H.cv ea_3 to2 (by decide)
  obtain ⟨r_2, er_2, hf⟩ := x_bind hf
  obtain ⟨h_1, eh_1, H, E_⟩ := g1_ok H ea_3 to2 er_2
  refine EX.bd Hc_ ?_
  refine EX.bd eh_1 ?_
  dsimp only
  replace to1 := to1.up E_
  replace ta0 := ta0.up E_
  replace to2 := to2.up E_
  replace E := E.tr E_
  by_cases c_4 : r_2.1 = 0
  · replace hf := x_pos c_4 hf
    refine EX.pos c_4 ?_
    exact EX.uC E (gj44_23_ok H ta0 to1 to2 hf)
  · replace hf := x_neg c_4 hf
    refine EX.neg c_4 ?_
    refine EX.bd (H.gR ea_3 to2 (by decide) (by decide) (by decide)) ?_
    have t_5 := H.tyR ea_3 to2 (ci := 0) (k := 9) (by decide) (by decide) (by decide)
    by_cases c_6 : (cR r_2.2 a_3 9) = none
    · replace hf := x_pos c_6 hf
      refine EX.pos c_6 ?_
      refine EX.bd (H.gI ea_3 to2 (by decide) (by decide) rfl) ?_
      have Hc_ := H.cv rfl ta0 (by decide)
      obtain ⟨C_8, eC_8, hf⟩ := x_bind hf
      obtain ⟨h_7, eh_7, H, E_⟩ := g41_ok H rfl ta0 eC_8
      refine EX.bd Hc_ ?_
      refine EX.bd eh_7 ?_
      replace to1 := to1.up E_
      replace ta0 := ta0.up E_
      replace to2 := to2.up E_
      replace E := E.tr E_
      exact EX.uC E (gj44_23_ok H ta0 to1 to2 hf)
    · replace hf := x_neg c_6 hf
      refine EX.neg c_6 ?_
      exact EX.uC E (gj44_23_ok H ta0 to1 to2 hf)
end
section
theorem gj43_36_ok {k2 : Nat → Option Nat → Option Nat → Int32 → xC → Option xC} {f2 : Option Nat → Option Nat → Option Nat → Int32 → xH → Option xH} (hk2 : ∀ {h : xH} {C : xC} {a0 : Nat} {o1 : Option Nat} {o2 : Option Nat} {x3 : Int32} {r : xC}, WH h C → tR C (some a0) 4 → tR C o1 8 → tR C o2 1 → k2 a0 o1 o2 x3 C = some r → EX (f2 (some a0) o1 o2 x3 h) (fun z => z) (QC C r)) {h : xH} {C : xC} {a0 : Nat} {o1 : Option Nat} {o2 : Option Nat} {x3 : Int32} {o4 : Option Nat} {r : xC} (H : WH h C) (ta0 : tR C (some a0) 4) (to1 : tR C o1 8) (to2 : tR C o2 1) (to4 : tR C o4 0) (hf : gj43_36 k2 a0 o1 o2 x3 o4 C = some r) : EX (j43_36 f2 (some a0) o1 o2 x3 o4 h) (fun z => z) (QC C r) := by
  have E := Ext.rfl' (C := C)
  unfold gj43_36 at hf
  unfold j43_36
  exact EX.uC E (hk2 H ta0 to1 to2 hf)
theorem gl43_2_ok : ∀ (n : Nat) {h : xH} {C : xC} {a0 : Nat} {o1 : Option Nat} {o2 : Option Nat} {x3 : Int32} {r : xC} (H : WH h C) (ta0 : tR C (some a0) 4) (to1 : tR C o1 8) (to2 : tR C o2 1), gl43_2 n a0 o1 o2 x3 C = some r → EX (l43_2 n (some a0) o1 o2 x3 h) (fun z => z) (QC C r) := by
  intro n
  induction n with
  | zero => intros; rename_i hf; cases hf
  | succ n ih =>
    intro h C a0 o1 o2 x3 r H ta0 to1 to2 hf
    have E := Ext.rfl' (C := C)
    replace hf : ((o2).bind fun a_1 => (if (cI C a_1 3) ≤ x3 then some C else (g5 a_1 x3 C).bind fun r_4 => (if r_4.1 = none then gj43_36 (gl43_2 n) a0 o1 o2 x3 r_4.1 r_4.2 else (o1).bind fun a_9 => (g94 a_9 o2 r_4.1 r_4.2).bind fun C_8 => (g44 a0 o2 r_4.1 C_8).bind fun C_11 => gj43_36 (gl43_2 n) a0 o1 o2 x3 r_4.1 C_11))) = some r := hf
    unfold l43_2
    obtain ⟨a_1, ea_1, hf⟩ := x_bind hf
    refine EX.bd (H.gI ea_1 to2 (by decide) (by decide) rfl) ?_
    by_cases c_2 : (cI C a_1 3) ≤ x3
    · replace hf := x_pos c_2 hf
      refine EX.pos c_2 ?_
      obtain rfl := Option.some.inj hf
      exact ⟨_, rfl, H, E⟩
    · replace hf := x_neg c_2 hf
      refine EX.neg c_2 ?_
      have Hc_ := H.cv ea_1 to2 (by decide)
      obtain ⟨r_4, er_4, hf⟩ := x_bind hf
      obtain ⟨h_3, eh_3, H, E_, t_5⟩ := g5_ok H ea_1 to2 er_4
      refine EX.bd Hc_ ?_
      refine EX.bd eh_3 ?_
      dsimp only
      replace to1 := to1.up E_
      replace ta0 := ta0.up E_
      replace to2 := to2.up E_
      replace E := E.tr E_
      by_cases c_6 : r_4.1 = none
      · replace hf := x_pos c_6 hf
        refine EX.pos c_6 ?_
        exact EX.uC E (gj43_36_ok (k2 := (gl43_2 n)) (f2 := (l43_2 n)) ih H ta0 to1 to2 t_5 hf)
      · replace hf := x_neg c_6 hf
        refine EX.neg c_6 ?_
        obtain ⟨a_9, ea_9, hf⟩ := x_bind hf
        have Hc_ := H.cv ea_9 to1 (by decide)
        obtain ⟨C_8, eC_8, hf⟩ := x_bind hf
        obtain ⟨h_7, eh_7, H, E_⟩ := g94_ok H ea_9 to1 to2 t_5 eC_8
        refine EX.bd Hc_ ?_
        refine EX.bd eh_7 ?_
        replace to1 := to1.up E_
        replace ta0 := ta0.up E_
        replace t_5 := t_5.up E_
        replace to2 := to2.up E_
        replace E := E.tr E_
        have Hc_ := H.cv rfl ta0 (by decide)
        obtain ⟨C_11, eC_11, hf⟩ := x_bind hf
        obtain ⟨h_10, eh_10, H, E_⟩ := g44_ok H rfl ta0 to2 t_5 eC_11
        refine EX.bd Hc_ ?_
        refine EX.bd eh_10 ?_
        replace to1 := to1.up E_
        replace ta0 := ta0.up E_
        replace t_5 := t_5.up E_
        replace to2 := to2.up E_
        replace E := E.tr E_
        exact EX.uC E (gj43_36_ok (k2 := (gl43_2 n)) (f2 := (l43_2 n)) ih H ta0 to1 to2 t_5 hf)
theorem g43_ok {h : xH} {C : xC} {o0 : Option Nat} {a0 : Nat} {o1 : Option Nat} {o2 : Option Nat} {r : xC} (H : WH h C) (e0 : o0 = some a0) (ta0 : tR C o0 4) (to1 : tR C o1 8) (to2 : tR C o2 1) (hf : g43 a0 o1 o2 C = some r) : EX (fn43 o0 o1 o2 h) (fun z => z) (QC C r) := by
  subst e0
  have E := Ext.rfl' (C := C)
  unfold g43 at hf
  unfold fn43
  exact EX.uC E (gl43_2_ok xFuel H ta0 to1 to2 hf)
end
section
theorem gj45_24_ok {h : xH} {C : xC} {a0 : Nat} {o1 : Option Nat} {o2 : Option Nat} {o3 : Option Nat} {r : xC} (H : WH h C) (ta0 : tR C (some a0) 4) (to1 : tR C o1 1) (to2 : tR C o2 2) (to3 : tR C o3 0) (hf : gj45_24 a0 o1 o2 o3 C = some r) : EX (j45_24 (some a0) o1 o2 o3 h) (fun z => z) (QC C r) := by
  have E := Ext.rfl' (C := C)
  unfold gj45_24 at hf
  unfold j45_24
  obtain rfl := Option.some.inj hf
  exact ⟨_, rfl, H, E⟩
theorem g45_ok {h : xH} {C : xC} {o0 : Option Nat} {a0 : Nat} {o1 : Option Nat} {o2 : Option Nat} {r : xC} (H : WH h C) (e0 : o0 = some a0) (ta0 : tR C o0 4) (to1 : tR C o1 1) (to2 : tR C o2 2) (hf : g45 a0 o1 o2 C = some r) : EX (fn45 o0 o1 o2 h) (fun z => z) (QC C r) := by
  subst e0
  have E := Ext.rfl' (C := C)
  unfold g45 at hf
  unfold fn45
  obtain ⟨a_3, ea_3, hf⟩ := x_bind hf
  have Hc_ := H.cv ea_3 to1 (by decide)
  obtain ⟨r_2, er_2, hf⟩ := x_bind hf
  obtain ⟨h_1, eh_1, H, E_, t_4⟩ := g9_ok H ea_3 to1 er_2
  refine EX.bd Hc_ ?_
  refine EX.bd eh_1 ?_
  dsimp only
  replace to1 := to1.up E_
  replace ta0 := ta0.up E_
  replace to2 := to2.up E_
  replace E := E.tr E_
  by_cases c_5 : r_2.1 = none
  · replace hf := x_pos c_5 hf
    refine EX.pos c_5 ?_
    exact EX.uC E (gj45_24_ok H ta0 to1 to2 t_4 hf)
  · replace hf := x_neg c_5 hf
    refine EX.neg c_5 ?_
    by_cases c_6 : o2 = none
    · replace hf := x_pos c_6 hf
      refine EX.pos c_6 ?_
      obtain ⟨a_7, ea_7, hf⟩ := x_bind hf
      refine EX.bd (H.gI ea_7 t_4 (by decide) (by decide) rfl) ?_
      have Hc_ := H.cv rfl ta0 (by decide)
      obtain ⟨C_9, eC_9, hf⟩ := x_bind hf
      obtain ⟨h_8, eh_8, H, E_⟩ := g41_ok H rfl ta0 eC_9
      refine EX.bd Hc_ ?_
      refine EX.bd eh_8 ?_
      replace t_4 := t_4.up E_
      replace to1 := to1.up E_
      replace ta0 := ta0.up E_
      replace to2 := to2.up E_
      replace E := E.tr E_
      exact EX.uC E (gj45_24_ok H ta0 to1 to2 t_4 hf)
    · replace hf := x_neg c_6 hf
      refine EX.neg c_6 ?_
      exact EX.uC E (gj45_24_ok H ta0 to1 to2 t_4 hf)
end
section
theorem gj46_62_ok {k2 : Nat → Option Nat → Option Nat → Int32 → xC → Option xC} {f2 : Option Nat → Option Nat → Option Nat → Int32 → xH → Option xH} (hk2 : ∀ {h : xH} {C : xC} {a0 : Nat} {o1 : Option Nat} {o2 : Option Nat} {x3 : Int32} {r : xC}, WH h C → tR C (some a0) 4 → tR C o1 2 → tR C o2 1 → k2 a0 o1 o2 x3 C = some r → EX (f2 (some a0) o1 o2 x3 h) (fun z => z) (QC C r)) {h : xH} {C : xC} {a0 : Nat} {o1 : Option Nat} {o2 : Option Nat} {x3 : Int32} {o4 : Option Nat} {r : xC} (H : WH h C) (ta0 : tR C (some a0) 4) (to1 : tR C o1 2) (to2 : tR C o2 1) (to4 : tR C o4 0) (hf : gj46_62 k2 a0 o1 o2 x3 o4 C = some r) : EX (j46_62 f2 (some a0) o1 o2 x3 o4 h) (fun z => z) (QC C r) := by
  have E := Ext.rfl' (C := C)
  unfold gj46_62 at hf
  unfold j46_62
  exact EX.uC E (hk2 H ta0 to1 to2 hf)
theorem gl46_2_ok : ∀ (n : Nat) {h : xH} {C : xC} {a0 : Nat} {o1 : Option Nat} {o2 : Option Nat} {x3 : Int32} {r : xC} (H : WH h C) (ta0 : tR C (some a0) 4) (to1 : tR C o1 2) (to2 : tR C o2 1), gl46_2 n a0 o1 o2 x3 C = some r → EX (l46_2 n (some a0) o1 o2 x3 h) (fun z => z) (QC C r) := by
  intro n
  induction n with
  | zero => intros; rename_i hf; cases hf
  | succ n ih =>
    intro h C a0 o1 o2 x3 r H ta0 to1 to2 hf
    have E := Ext.rfl' (C := C)
    replace hf : ((o2).bind fun a_1 => (if (cI C a_1 3) ≤ x3 then some C else (g5 a_1 x3 C).bind fun r_4 => (if r_4.1 = none then gj46_62 (gl46_2 n) a0 o1 o2 x3 r_4.1 r_4.2 else (r_4.1).bind fun a_7 => (if (cI r_4.2 a_7 1) = 2 then (o1).bind fun a_12 => (g16 a_12 (cR r_4.2 a_1 0) (cI r_4.2 a_7 6) (cI r_4.2 a_7 7) r_4.2).bind fun r_11 => (if r_11.1 = 0 then (g41 a0 4 (cI r_11.2 a_7 2) r_11.2).bind fun C_15 => gj46_62 (gl46_2 n) a0 o1 o2 x3 r_4.1 C_15 else gj46_62 (gl46_2 n) a0 o1 o2 x3 r_4.1 r_11.2) else gj46_62 (gl46_2 n) a0 o1 o2 x3 r_4.1 r_4.2)))) = some r := hf
    unfold l46_2
    obtain ⟨a_1, ea_1, hf⟩ := x_bind hf
    refine EX.bd (H.gI ea_1 to2 (by decide) (by decide) rfl) ?_
    by_cases c_2 : (cI C a_1 3) ≤ x3
    · replace hf := x_pos c_2 hf
      refine EX.pos c_2 ?_
      obtain rfl := Option.some.inj hf
      exact ⟨_, rfl, H, E⟩
    · replace hf := x_neg c_2 hf
      refine EX.neg c_2 ?_
      have Hc_ := H.cv ea_1 to2 (by decide)
      obtain ⟨r_4, er_4, hf⟩ := x_bind hf
      obtain ⟨h_3, eh_3, H, E_, t_5⟩ := g5_ok H ea_1 to2 er_4
      refine EX.bd Hc_ ?_
      refine EX.bd eh_3 ?_
      dsimp only
      replace to1 := to1.up E_
      replace ta0 := ta0.up E_
      replace to2 := to2.up E_
      replace E := E.tr E_
      by_cases c_6 : r_4.1 = none
      · replace hf := x_pos c_6 hf
        refine EX.pos c_6 ?_
        exact EX.uC E (gj46_62_ok (k2 := (gl46_2 n)) (f2 := (l46_2 n)) ih H ta0 to1 to2 t_5 hf)
      · replace hf := x_neg c_6 hf
        refine EX.neg c_6 ?_
        obtain ⟨a_7, ea_7, hf⟩ := x_bind hf
        refine EX.bd (H.gI ea_7 t_5 (by decide) (by decide) rfl) ?_
        by_cases c_8 : (cI r_4.2 a_7 1) = 2
        · replace hf := x_pos c_8 hf
          refine EX.pos c_8 ?_
          refine EX.bd (H.gR ea_1 to2 (by decide) (by decide) (by decide)) ?_
          have t_9 := H.tyR ea_1 to2 (ci := 1) (k := 0) (by decide) (by decide) (by decide)
          refine EX.bd (H.gI ea_7 t_5 (by decide) (by decide) rfl) ?_
          refine EX.bd (H.gI ea_7 t_5 (by decide) (by decide) rfl) ?_
          obtain ⟨a_12, ea_12, hf⟩ := x_bind hf
          have Hc_ := H.cv ea_12 to1 (by decide)
          obtain ⟨r_11, er_11, hf⟩ := x_bind hf
          obtain ⟨h_10, eh_10, H, E_⟩ := g16_ok H ea_12 to1 t_9 er_11
          refine EX.bd Hc_ ?_
          refine EX.bd eh_10 ?_
          dsimp only
          replace to1 := to1.up E_
          replace ta0 := ta0.up E_
          replace t_5 := t_5.up E_
          replace to2 := to2.up E_
          replace E := E.tr E_
          by_cases c_13 : r_11.1 = 0
          · replace hf := x_pos c_13 hf
            refine EX.pos c_13 ?_
            refine EX.bd (H.gI ea_7 t_5 (by decide) (by decide) rfl) ?_
            have Hc_ := H.cv rfl ta0 (by decide)
            obtain ⟨C_15, eC_15, hf⟩ := x_bind hf
            obtain ⟨h_14, eh_14, H, E_⟩ := g41_ok H rfl ta0 eC_15
            refine EX.bd Hc_ ?_
            refine EX.bd eh_14 ?_
            replace to1 := to1.up E_
            replace ta0 := ta0.up E_
            replace t_5 := t_5.up E_
            replace to2 := to2.up E_
            replace E := E.tr E_
            exact EX.uC E (gj46_62_ok (k2 := (gl46_2 n)) (f2 := (l46_2 n)) ih H ta0 to1 to2 t_5 hf)
          · replace hf := x_neg c_13 hf
            refine EX.neg c_13 ?_
            exact EX.uC E (gj46_62_ok (k2 := (gl46_2 n)) (f2 := (l46_2 n)) ih H ta0 to1 to2 t_5 hf)
        · replace hf := x_neg c_8 hf
          refine EX.neg c_8 ?_
          exact EX.uC E (gj46_62_ok (k2 := (gl46_2 n)) (f2 := (l46_2 n)) ih H ta0 to1 to2 t_5 hf)
theorem g46_ok {h : xH} {C : xC} {o0 : Option Nat} {a0 : Nat} {o1 : Option Nat} {o2 : Option Nat} {r : xC} (H : WH h C) (e0 : o0 = some a0) (ta0 : tR C o0 4) (to1 : tR C o1 2) (to2 : tR C o2 1) (hf : g46 a0 o1 o2 C = some r) : EX (fn46 o0 o1 o2 h) (fun z => z) (QC C r) := by
  subst e0
  have E := Ext.rfl' (C := C)
  unfold g46 at hf
  unfold fn46
  exact EX.uC E (gl46_2_ok xFuel H ta0 to1 to2 hf)
end
section
theorem gj47_26_ok {h : xH} {C : xC} {a0 : Nat} {o1 : Option Nat} {o2 : Option Nat} {o3 : Option Nat} {r : xC} (H : WH h C) (ta0 : tR C (some a0) 4) (to1 : tR C o1 2) (to2 : tR C o2 1) (to3 : tR C o3 0) (hf : gj47_26 a0 o1 o2 o3 C = some r) : EX (j47_26 (some a0) o1 o2 o3 h) (fun z => z) (QC C r) := by
  have E := Ext.rfl' (C := C)
  unfold gj47_26 at hf
  unfold j47_26
  obtain rfl := Option.some.inj hf
  exact ⟨_, rfl, H, E⟩
theorem g47_ok {h : xH} {C : xC} {o0 : Option Nat} {a0 : Nat} {o1 : Option Nat} {o2 : Option Nat} {r : xC} (H : WH h C) (e0 : o0 = some a0) (ta0 : tR C o0 4) (to1 : tR C o1 2) (to2 : tR C o2 1) (hf : g47 a0 o1 o2 C = some r) : EX (fn47 o0 o1 o2 h) (fun z => z) (QC C r) := by
  subst e0
  have E := Ext.rfl' (C := C)
  unfold g47 at hf
  unfold fn47
  obtain ⟨a_3, ea_3, hf⟩ := x_bind hf
  have Hc_ := H.cv ea_3 to2 (by decide)
  obtain ⟨r_2, er_2, hf⟩ := x_bind hf
  obtain ⟨h_1, eh_1, H, E_, t_4⟩ := g9_ok H ea_3 to2 er_2
  refine EX.bd Hc_ ?_
  refine EX.bd eh_1 ?_
  dsimp only
  replace to1 := to1.up E_
  replace ta0 := ta0.up E_
  replace to2 := to2.up E_
  replace E := E.tr E_
  by_cases c_5 : r_2.1 = none
  · replace hf := x_pos c_5 hf
    refine EX.pos c_5 ?_
    exact EX.uC E (gj47_26_ok H ta0 to1 to2 t_4 hf)
  · replace hf := x_neg c_5 hf
    refine EX.neg c_5 ?_
    obtain ⟨a_6, ea_6, hf⟩ := x_bind hf
    refine EX.bd (H.gI ea_6 to1 (by decide) (by decide) rfl) ?_
    by_cases c_7 : (cI r_2.2 a_6 4) = 0
    · replace hf := x_pos c_7 hf
      refine EX.pos c_7 ?_
      obtain ⟨a_8, ea_8, hf⟩ := x_bind hf
      refine EX.bd (H.gI ea_8 t_4 (by decide) (by decide) rfl) ?_
      have Hc_ := H.cv rfl ta0 (by decide)
      obtain ⟨C_10, eC_10, hf⟩ := x_bind hf
      obtain ⟨h_9, eh_9, H, E_⟩ := g41_ok H rfl ta0 eC_10
      refine EX.bd Hc_ ?_
      refine EX.bd eh_9 ?_
      replace t_4 := t_4.up E_
      replace to1 := to1.up E_
      replace ta0 := ta0.up E_
      replace to2 := to2.up E_
      replace E := E.tr E_
      exact EX.uC E (gj47_26_ok H ta0 to1 to2 t_4 hf)
    · replace hf := x_neg c_7 hf
      refine EX.neg c_7 ?_
      exact EX.uC E (gj47_26_ok H ta0 to1 to2 t_4 hf)
end
section
theorem gj49_66_ok {h : xH} {C : xC} {o0 : Option Nat} {o1 : Option Nat} {o2 : Option Nat} {o3 : Option Nat} {x4 : Int32} {r : (Int32 × xC)} (H : WH h C) (to0 : tR C o0 8) (to1 : tR C o1 2) (to2 : tR C o2 9) (to3 : tR C o3 2) (hf : gj49_66 o0 o1 o2 o3 x4 C = some r) : EX (j49_66 o0 o1 o2 o3 x4 h) (fun z => (r.1, z)) (QC C r.2) := by
  have E := Ext.rfl' (C := C)
  unfold gj49_66 at hf
  unfold j49_66
  obtain rfl := Option.some.inj hf
  exact ⟨_, rfl, H, E⟩
theorem gj49_54_ok {k5 : Option Nat → Option Nat → Option Nat → Option Nat → Int32 → xC → Option (Int32 × xC)} {f5 : Option Nat → Option Nat → Option Nat → Option Nat → Int32 → xH → Option (Int32 × xH)} (hk5 : ∀ {h : xH} {C : xC} {o0 : Option Nat} {o1 : Option Nat} {o2 : Option Nat} {o3 : Option Nat} {x4 : Int32} {r : (Int32 × xC)}, WH h C → tR C o0 8 → tR C o1 2 → tR C o2 9 → tR C o3 2 → k5 o0 o1 o2 o3 x4 C = some r → EX (f5 o0 o1 o2 o3 x4 h) (fun z => (r.1, z)) (QC C r.2)) {h : xH} {C : xC} {o0 : Option Nat} {o1 : Option Nat} {o2 : Option Nat} {o3 : Option Nat} {x4 : Int32} {o5 : Option Nat} {r : (Int32 × xC)} (H : WH h C) (to0 : tR C o0 8) (to1 : tR C o1 2) (to2 : tR C o2 9) (to3 : tR C o3 2) (to5 : tR C o5 1) (hf : gj49_54 k5 o0 o1 o2 o3 x4 o5 C = some r) : EX (j49_54 f5 o0 o1 o2 o3 x4 o5 h) (fun z => (r.1, z)) (QC C r.2) := by
  have E := Ext.rfl' (C := C)
  unfold gj49_54 at hf
  unfold j49_54
  obtain ⟨a_3, ea_3, hf⟩ := x_bind hf
  have Hc_ := H.cv ea_3 to0 (by decide)
  obtain ⟨r_2, er_2, hf⟩ := x_bind hf
  obtain ⟨h_1, eh_1, H, E_, t_4⟩ := g90_ok H ea_3 to0 to3 er_2
  refine EX.bd Hc_ ?_
  refine EX.bd eh_1 ?_
  dsimp only
  replace to5 := to5.up E_
  replace to2 := to2.up E_
  replace to3 := to3.up E_
  replace to0 := to0.up E_
  replace to1 := to1.up E_
  replace E := E.tr E_
  exact EX.uC E (hk5 H to0 to1 to2 t_4 hf)
theorem gj49_52_ok {h : xH} {C : xC} {o0 : Option Nat} {o1 : Option Nat} {o2 : Option Nat} {o3 : Option Nat} {x4 : Int32} {o5 : Option Nat} {r : (Int32 × xC)} (H : WH h C) (to0 : tR C o0 8) (to1 : tR C o1 2) (to2 : tR C o2 9) (to3 : tR C o3 2) (to5 : tR C o5 1) (hf : gj49_52 o0 o1 o2 o3 x4 o5 C = some r) : EX (j49_52 o0 o1 o2 o3 x4 o5 h) (fun z => (r.1, z)) (QC C r.2) := by
  have E := Ext.rfl' (C := C)
  unfold gj49_52 at hf
  unfold j49_52
  obtain rfl := Option.some.inj hf
  exact ⟨_, rfl, H, E⟩
theorem gl49_5_ok : ∀ (n : Nat) {h : xH} {C : xC} {o0 : Option Nat} {o1 : Option Nat} {o2 : Option Nat} {o3 : Option Nat} {x4 : Int32} {r : (Int32 × xC)} (H : WH h C) (to0 : tR C o0 8) (to1 : tR C o1 2) (to2 : tR C o2 9) (to3 : tR C o3 2), gl49_5 n o0 o1 o2 o3 x4 C = some r → EX (l49_5 n o0 o1 o2 o3 x4 h) (fun z => (r.1, z)) (QC C r.2) := by
  intro n
  induction n with
  | zero => intros; rename_i hf; cases hf
  | succ n ih =>
    intro h C o0 o1 o2 o3 x4 r H to0 to1 to2 to3 hf
    have E := Ext.rfl' (C := C)
    replace hf : ((if 40 ≤ x4 then gj49_66 o0 o1 o2 o3 x4 C else (if o3 = none then gj49_66 o0 o1 o2 o3 x4 C else (o3).bind fun a_5 => (g14 a_5 C).bind fun r_4 => (if r_4.1 = none then gj49_54 (gl49_5 n) o0 o1 o2 o3 x4 r_4.1 r_4.2 else (if o2 = none then (r_4.1).bind fun a_11 => (g9 a_11 3 r_4.2).bind fun r_10 => (if r_10.1 = none then gj49_54 (gl49_5 n) o0 o1 o2 o3 x4 r_4.1 r_10.2 else gj49_52 o0 o1 o2 o3 x4 r_4.1 r_10.2) else (r_4.1).bind fun a_16 => (g10 a_16 o2 r_4.2).bind fun r_15 => (if r_15.1 = 0 then gj49_54 (gl49_5 n) o0 o1 o2 o3 x4 r_4.1 r_15.2 else gj49_52 o0 o1 o2 o3 x4 r_4.1 r_15.2)))))) = some r := hf
    unfold l49_5
    by_cases c_1 : 40 ≤ x4
    · replace hf := x_pos c_1 hf
      refine EX.pos c_1 ?_
      exact EX.uC E (gj49_66_ok H to0 to1 to2 to3 hf)
    · replace hf := x_neg c_1 hf
      refine EX.neg c_1 ?_
      by_cases c_2 : o3 = none
      · replace hf := x_pos c_2 hf
        refine EX.pos c_2 ?_
        exact EX.uC E (gj49_66_ok H to0 to1 to2 to3 hf)
      · replace hf := x_neg c_2 hf
        refine EX.neg c_2 ?_
        obtain ⟨a_5, ea_5, hf⟩ := x_bind hf
        have Hc_ := H.cv ea_5 to3 (by decide)
        obtain ⟨r_4, er_4, hf⟩ := x_bind hf
        obtain ⟨h_3, eh_3, H, E_, t_6⟩ := g14_ok H ea_5 to3 er_4
        refine EX.bd Hc_ ?_
        refine EX.bd eh_3 ?_
        dsimp only
        replace to3 := to3.up E_
        replace to0 := to0.up E_
        replace to1 := to1.up E_
        replace to2 := to2.up E_
        replace E := E.tr E_
        by_cases c_7 : r_4.1 = none
        · replace hf := x_pos c_7 hf
          refine EX.pos c_7 ?_
          exact EX.uC E (gj49_54_ok (k5 := (gl49_5 n)) (f5 := (l49_5 n)) ih H to0 to1 to2 to3 t_6 hf)
        · replace hf := x_neg c_7 hf
          refine EX.neg c_7 ?_
          by_cases c_8 : o2 = none
          · replace hf := x_pos c_8 hf
            refine EX.pos c_8 ?_
            obtain ⟨a_11, ea_11, hf⟩ := x_bind hf
            have Hc_ := H.cv ea_11 t_6 (by decide)
            obtain ⟨r_10, er_10, hf⟩ := x_bind hf
            obtain ⟨h_9, eh_9, H, E_, t_12⟩ := g9_ok H ea_11 t_6 er_10
            refine EX.bd Hc_ ?_
            refine EX.bd eh_9 ?_
            dsimp only
            replace t_6 := t_6.up E_
            replace to2 := to2.up E_
            replace to3 := to3.up E_
            replace to0 := to0.up E_
            replace to1 := to1.up E_
            replace E := E.tr E_
            by_cases c_13 : r_10.1 = none
            · replace hf := x_pos c_13 hf
              refine EX.pos c_13 ?_
              exact EX.uC E (gj49_54_ok (k5 := (gl49_5 n)) (f5 := (l49_5 n)) ih H to0 to1 to2 to3 t_6 hf)
            · replace hf := x_neg c_13 hf
              refine EX.neg c_13 ?_
              exact EX.uC E (gj49_52_ok H to0 to1 to2 to3 t_6 hf)
          · replace hf := x_neg c_8 hf
            refine EX.neg c_8 ?_
            obtain ⟨a_16, ea_16, hf⟩ := x_bind hf
            have Hc_ := H.cv ea_16 t_6 (by decide)
            obtain ⟨r_15, er_15, hf⟩ := x_bind hf
            obtain ⟨h_14, eh_14, H, E_⟩ := g10_ok H ea_16 t_6 to2 er_15
            refine EX.bd Hc_ ?_
            refine EX.bd eh_14 ?_
            dsimp only
            replace t_6 := t_6.up E_
            replace to2 := to2.up E_
            replace to3 := to3.up E_
            replace to0 := to0.up E_
            replace to1 := to1.up E_
            replace E := E.tr E_
            by_cases c_17 : r_15.1 = 0
            · replace hf := x_pos c_17 hf
              refine EX.pos c_17 ?_
              exact EX.uC E (gj49_54_ok (k5 := (gl49_5 n)) (f5 := (l49_5 n)) ih H to0 to1 to2 to3 t_6 hf)
            · replace hf := x_neg c_17 hf
              refine EX.neg c_17 ?_
              exact EX.uC E (gj49_52_ok H to0 to1 to2 to3 t_6 hf)
theorem g49_ok {h : xH} {C : xC} {o0 : Option Nat} {o1 : Option Nat} {o2 : Option Nat} {r : (Int32 × xC)} (H : WH h C) (to0 : tR C o0 8) (to1 : tR C o1 2) (to2 : tR C o2 9) (hf : g49 o0 o1 o2 C = some r) : EX (fn49 o0 o1 o2 h) (fun z => (r.1, z)) (QC C r.2) := by
  have E := Ext.rfl' (C := C)
  unfold g49 at hf
  unfold fn49
  exact EX.uC E (gl49_5_ok xFuel H to0 to1 to2 to1 hf)
end
