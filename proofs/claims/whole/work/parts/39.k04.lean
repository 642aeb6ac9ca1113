section
theorem gj48_68_ok {h : xH} {C : xC} {a0 : Nat} {o1 : Option Nat} {o2 : Option Nat} {x3 : Int32} {r : xC} (H : WH h C) (ta0 : tR C (some a0) 4) (to1 : tR C o1 8) (to2 : tR C o2 2) (hf : gj48_68 a0 o1 o2 x3 C = some r) : EX (j48_68 (some a0) o1 o2 x3 h) (fun z => z) (QC C r) := by
  have E := Ext.rfl' (C := C)
  unfold gj48_68 at hf
  unfold j48_68
  obtain rfl := Option.some.inj hf
  exact ⟨_, rfl, H, E⟩
theorem gj48_39_ok {k2 : Nat → Option Nat → Option Nat → Int32 → xC → Option xC} {f2 : Option Nat → Option Nat → Option Nat → Int32 → xH → Option xH} (hk2 : ∀ {h : xH} {C : xC} {a0 : Nat} {o1 : Option Nat} {o2 : Option Nat} {x3 : Int32} {r : xC}, WH h C → tR C (some a0) 4 → tR C o1 8 → tR C o2 2 → k2 a0 o1 o2 x3 C = some r → EX (f2 (some a0) o1 o2 x3 h) (fun z => z) (QC C r)) {h : xH} {C : xC} {a0 : Nat} {o1 : Option Nat} {o2 : Option Nat} {x3 : Int32} {o4 : Option Nat} {r : xC} (H : WH h C) (ta0 : tR C (some a0) 4) (to1 : tR C o1 8) (to2 : tR C o2 2) (to4 : tR C o4 9) (hf : gj48_39 k2 a0 o1 o2 x3 o4 C = some r) : EX (j48_39 f2 (some a0) o1 o2 x3 o4 h) (fun z => z) (QC C r) := by
  have E := Ext.rfl' (C := C)
  unfold gj48_39 at hf
  unfold j48_39
  exact EX.uC E (hk2 H ta0 to1 to2 hf)
theorem gl48_2_ok : ∀ (n : Nat) {h : xH} {C : xC} {a0 : Nat} {o1 : Option Nat} {o2 : Option Nat} {x3 : Int32} {r : xC} (H : WH h C) (ta0 : tR C (some a0) 4) (to1 : tR C o1 8) (to2 : tR C o2 2), gl48_2 n a0 o1 o2 x3 C = some r → EX (l48_2 n (some a0) o1 o2 x3 h) (fun z => z) (QC C r) := by
  intro n
  induction n with
  | zero => intros; rename_i hf; cases hf
  | succ n ih =>
    intro h C a0 o1 o2 x3 r H ta0 to1 to2 hf
    have E := Ext.rfl' (C := C)
    replace hf : ((o2).bind fun a_1 => (if (cI C a_1 6) ≤ x3 then (if (cI C a_1 4) = 0 then gj48_68 a0 o1 o2 x3 C else (g49 o1 o2 none C).bind fun r_5 => (if r_5.1 = 0 then (g41 a0 7 0 r_5.2).bind fun C_8 => gj48_68 a0 o1 o2 x3 C_8 else gj48_68 a0 o1 o2 x3 r_5.2)) else (g15 a_1 x3 C).bind fun r_10 => (if r_10.1 = none then gj48_39 (gl48_2 n) a0 o1 o2 x3 r_10.1 r_10.2 else (g49 o1 o2 r_10.1 r_10.2).bind fun r_14 => (if r_14.1 = 0 then (g41 a0 6 x3 r_14.2).bind fun C_17 => gj48_39 (gl48_2 n) a0 o1 o2 x3 r_10.1 C_17 else gj48_39 (gl48_2 n) a0 o1 o2 x3 r_10.1 r_14.2)))) = some r := hf
    unfold l48_2
    obtain ⟨a_1, ea_1, hf⟩ := x_bind hf
    refine EX.bd (H.gI ea_1 to2 (by decide) (by decide) rfl) ?_
    by_cases c_2 : (cI C a_1 6) ≤ x3
    · replace hf := x_pos c_2 hf
      refine EX.pos c_2 ?_
      refine EX.bd (H.gI ea_1 to2 (by decide) (by decide) rfl) ?_
      by_cases c_3 : (cI C a_1 4) = 0
      · replace hf := x_pos c_3 hf
        refine EX.pos c_3 ?_
        exact EX.uC E (gj48_68_ok H ta0 to1 to2 hf)
      · replace hf := x_neg c_3 hf
        refine EX.neg c_3 ?_
        obtain ⟨r_5, er_5, hf⟩ := x_bind hf
        obtain ⟨h_4, eh_4, H, E_⟩ := g49_ok H to1 to2 tR_none er_5
        refine EX.bd eh_4 ?_
        dsimp only
        replace to1 := to1.up E_
        replace ta0 := ta0.up E_
        replace to2 := to2.up E_
        replace E := E.tr E_
        by_cases c_6 : r_5.1 = 0
        · replace hf := x_pos c_6 hf
          refine EX.pos c_6 ?_
          have Hc_ := H.cv rfl ta0 (by decide)
          obtain ⟨C_8, eC_8, hf⟩ := x_bind hf
          obtain ⟨h_7, eh_7, H, E_⟩ := g41_ok H rfl ta0 eC_8
          refine EX.bd Hc_ ?_
          refine EX.bd eh_7 ?_
          replace to1 := to1.up E_
          replace ta0 := ta0.up E_
          replace to2 := to2.up E_
          replace E := E.tr E_
          exact EX.uC E (gj48_68_ok H ta0 to1 to2 hf)
        · replace hf := x_neg c_6 hf
          refine EX.neg c_6 ?_
          exact EX.uC E (gj48_68_ok H ta0 to1 to2 hf)
    · replace hf := x_neg c_2 hf
      refine EX.neg c_2 ?_
      have Hc_ := H.cv ea_1 to2 (by decide)
      obtain ⟨r_10, er_10, hf⟩ := x_bind hf
      obtain ⟨h_9, eh_9, H, E_, t_11⟩ := g15_ok H ea_1 to2 er_10
      refine EX.bd Hc_ ?_
      refine EX.bd eh_9 ?_
      dsimp only
      replace to1 := to1.up E_
      replace ta0 := ta0.up E_
      replace to2 := to2.up E_
      replace E := E.tr E_
      by_cases c_12 : r_10.1 = none
      · replace hf := x_pos c_12 hf
        refine EX.pos c_12 ?_
        exact EX.uC E (gj48_39_ok (k2 := (gl48_2 n)) (f2 := (l48_2 n)) ih H ta0 to1 to2 t_11 hf)
      · replace hf := x_neg c_12 hf
        refine EX.neg c_12 ?_
        obtain ⟨r_14, er_14, hf⟩ := x_bind hf
        obtain ⟨h_13, eh_13, H, E_⟩ := g49_ok H to1 to2 t_11 er_14
        refine EX.bd eh_13 ?_
        dsimp only
        replace to1 := to1.up E_
        replace ta0 := ta0.up E_
        replace t_11 := t_11.up E_
        replace to2 := to2.up E_
        replace E := E.tr E_
        by_cases c_15 : r_14.1 = 0
        · replace hf := x_pos c_15 hf
          refine EX.pos c_15 ?_
          have Hc_ := H.cv rfl ta0 (by decide)
          obtain ⟨C_17, eC_17, hf⟩ := x_bind hf
          obtain ⟨h_16, eh_16, H, E_⟩ := g41_ok H rfl ta0 eC_17
          refine EX.bd Hc_ ?_
          refine EX.bd eh_16 ?_
          replace to1 := to1.up E_
          replace ta0 := ta0.up E_
          replace t_11 := t_11.up E_
          replace to2 := to2.up E_
          replace E := E.tr E_
          exact EX.uC E (gj48_39_ok (k2 := (gl48_2 n)) (f2 := (l48_2 n)) ih H ta0 to1 to2 t_11 hf)
        · replace hf := x_neg c_15 hf
          refine EX.neg c_15 ?_
          exact EX.uC E (gj48_39_ok (k2 := (gl48_2 n)) (f2 := (l48_2 n)) ih H ta0 to1 to2 t_11 hf)
theorem g48_ok {h : xH} {C : xC} {o0 : Option Nat} {a0 : Nat} {o1 : Option Nat} {o2 : Option Nat} {r : xC} (H : WH h C) (e0 : o0 = some a0) (ta0 : tR C o0 4) (to1 : tR C o1 8) (to2 : tR C o2 2) (hf : g48 a0 o1 o2 C = some r) : EX (fn48 o0 o1 o2 h) (fun z => z) (QC C r) := by
  subst e0
  have E := Ext.rfl' (C := C)
  unfold g48 at hf
  unfold fn48
  exact EX.uC E (gl48_2_ok xFuel H ta0 to1 to2 hf)
end
section
theorem gj42_56_ok {h : xH} {C : xC} {a0 : Nat} {o1 : Option Nat} {o2 : Option Nat} {o3 : Option Nat} {r : xC} (H : WH h C) (ta0 : tR C (some a0) 4) (to1 : tR C o1 8) (to2 : tR C o2 2) (to3 : tR C o3 1) (hf : gj42_56 a0 o1 o2 o3 C = some r) : EX (j42_56 (some a0) o1 o2 o3 h) (fun z => z) (QC C r) := by
  have E := Ext.rfl' (C := C)
  unfold gj42_56 at hf
  unfold j42_56
  have Hc_ := H.cv rfl ta0 (by decide)
  obtain ⟨C_2, eC_2, hf⟩ := x_bind hf
  obtain ⟨h_1, eh_1, H, E_⟩ := g48_ok H rfl ta0 to1 to2 eC_2
  refine EX.bd Hc_ ?_
  refine EX.bd eh_1 ?_
  replace to1 := to1.up E_
  replace ta0 := ta0.up E_
  replace to3 := to3.up E_
  replace to2 := to2.up E_
  replace E := E.tr E_
  obtain rfl := Option.some.inj hf
  exact ⟨_, rfl, H, E⟩
theorem gj42_19_ok {h : xH} {C : xC} {a0 : Nat} {o1 : Option Nat} {o2 : Option Nat} {r : xC} (H : WH h C) (ta0 : tR C (some a0) 4) (to1 : tR C o1 8) (to2 : tR C o2 2) (hf : gj42_19 a0 o1 o2 C = some r) : EX (j42_19 (some a0) o1 o2 h) (fun z => z) (QC C r) := by
  have E := Ext.rfl' (C := C)
  unfold gj42_19 at hf
  unfold j42_19
  obtain ⟨a_3, ea_3, hf⟩ := x_bind hf
  have Hc_ := H.cv ea_3 to2 (by decide)
  obtain ⟨r_2, er_2, hf⟩ := x_bind hf
  obtain ⟨h_1, eh_1, H, E_, t_4⟩ := g14_ok H ea_3 to2 er_2
  refine EX.bd Hc_ ?_
  refine EX.bd eh_1 ?_
  dsimp only
  replace to1 := to1.up E_
  replace ta0 := ta0.up E_
  replace to2 := to2.up E_
  replace E := E.tr E_
  by_cases c_5 : r_2.1 = none
  · replace hf := x_pos c_5 hf
    refine EX.pos c_5 ?_
    exact EX.uC E (gj42_56_ok H ta0 to1 to2 t_4 hf)
  · replace hf := x_neg c_5 hf
    refine EX.neg c_5 ?_
    have Hc_ := H.cv rfl ta0 (by decide)
    obtain ⟨C_7, eC_7, hf⟩ := x_bind hf
    obtain ⟨h_6, eh_6, H, E_⟩ := g43_ok H rfl ta0 to1 t_4 eC_7
    refine EX.bd Hc_ ?_
    refine EX.bd eh_6 ?_
    replace t_4 := t_4.up E_
    replace to1 := to1.up E_
    replace ta0 := ta0.up E_
    replace to2 := to2.up E_
    replace E := E.tr E_
    obtain ⟨a_10, ea_10, hf⟩ := x_bind hf
    have Hc_ := H.cv ea_10 to1 (by decide)
    obtain ⟨r_9, er_9, hf⟩ := x_bind hf
    obtain ⟨h_8, eh_8, H, E_, t_11⟩ := g92_ok H ea_10 to1 to2 er_9
    refine EX.bd Hc_ ?_
    refine EX.bd eh_8 ?_
    dsimp only
    replace t_4 := t_4.up E_
    replace to1 := to1.up E_
    replace ta0 := ta0.up E_
    replace to2 := to2.up E_
    replace E := E.tr E_
    have Hc_ := H.cv rfl ta0 (by decide)
    obtain ⟨C_13, eC_13, hf⟩ := x_bind hf
    obtain ⟨h_12, eh_12, H, E_⟩ := g45_ok H rfl ta0 t_4 t_11 eC_13
    refine EX.bd Hc_ ?_
    refine EX.bd eh_12 ?_
    replace t_4 := t_4.up E_
    replace to1 := to1.up E_
    replace ta0 := ta0.up E_
    replace to2 := to2.up E_
    replace E := E.tr E_
    have Hc_ := H.cv rfl ta0 (by decide)
    obtain ⟨C_15, eC_15, hf⟩ := x_bind hf
    obtain ⟨h_14, eh_14, H, E_⟩ := g46_ok H rfl ta0 to2 t_4 eC_15
    refine EX.bd Hc_ ?_
    refine EX.bd eh_14 ?_
    replace t_4 := t_4.up E_
    replace to1 := to1.up E_
    replace ta0 := ta0.up E_
    replace to2 := to2.up E_
    replace E := E.tr E_
    have Hc_ := H.cv rfl ta0 (by decide)
    obtain ⟨C_17, eC_17, hf⟩ := x_bind hf
    obtain ⟨h_16, eh_16, H, E_⟩ := g47_ok H rfl ta0 to2 t_4 eC_17
    refine EX.bd Hc_ ?_
    refine EX.bd eh_16 ?_
    replace t_4 := t_4.up E_
    replace to1 := to1.up E_
    replace ta0 := ta0.up E_
    replace to2 := to2.up E_
    replace E := E.tr E_
    exact EX.uC E (gj42_56_ok H ta0 to1 to2 t_4 hf)
theorem g42_ok {h : xH} {C : xC} {o0 : Option Nat} {a0 : Nat} {o1 : Option Nat} {o2 : Option Nat} {r : xC} (H : WH h C) (e0 : o0 = some a0) (ta0 : tR C o0 4) (to1 : tR C o1 8) (to2 : tR C o2 2) (hf : g42 a0 o1 o2 C = some r) : EX (fn42 o0 o1 o2 h) (fun z => z) (QC C r) := by
  subst e0
  have E := Ext.rfl' (C := C)
  unfold g42 at hf
  unfold fn42
  obtain ⟨C_1, eC_1, hf⟩ := x_bind hf
  obtain ⟨h_2, eh_2, H, E_⟩ := H.pI rfl ta0 (by decide) (by decide) rfl (xfit_int _) eC_1
  refine EX.bd eh_2 ?_
  replace to1 := to1.up E_
  replace ta0 := ta0.up E_
  replace to2 := to2.up E_
  replace E := E.tr E_
  obtain ⟨a_5, ea_5, hf⟩ := x_bind hf
  have Hc_ := H.cv ea_5 to1 (by decide)
  obtain ⟨r_4, er_4, hf⟩ := x_bind hf
  obtain ⟨h_3, eh_3, H, E_, t_6⟩ := g91_ok H ea_5 to1 to2 er_4
  refine EX.bd Hc_ ?_
  refine EX.bd eh_3 ?_
  dsimp only
  replace to1 := to1.up E_
  replace ta0 := ta0.up E_
  replace to2 := to2.up E_
  replace E := E.tr E_
  by_cases c_7 : r_4.1 = none
  · replace hf := x_pos c_7 hf
    refine EX.pos c_7 ?_
    have Hc_ := H.cv rfl ta0 (by decide)
    obtain ⟨C_9, eC_9, hf⟩ := x_bind hf
    obtain ⟨h_8, eh_8, H, E_⟩ := g41_ok H rfl ta0 eC_9
    refine EX.bd Hc_ ?_
    refine EX.bd eh_8 ?_
    replace to1 := to1.up E_
    replace ta0 := ta0.up E_
    replace to2 := to2.up E_
    replace E := E.tr E_
    exact EX.uC E (gj42_19_ok H ta0 to1 to2 hf)
  · replace hf := x_neg c_7 hf
    refine EX.neg c_7 ?_
    exact EX.uC E (gj42_19_ok H ta0 to1 to2 hf)
end
section
theorem g50_ok {h : xH} {C : xC} {o0 : Option Nat} {a0 : Nat} {r : xC} (H : WH h C) (e0 : o0 = some a0) (ta0 : tR C o0 5) (hf : g50 a0 C = some r) : EX (fn50 o0 h) (fun z => z) (QC C r) := by
  subst e0
  have E := Ext.rfl' (C := C)
  unfold g50 at hf
  unfold fn50
  refine EX.bdS ?_
  obtain ⟨C_1, eC_1, hf⟩ := x_bind hf
  obtain ⟨h_2, eh_2, N_, t_3, H, E_⟩ := H.new (ci := 9) (fs := [.null, .int 0]) (by decide) rfl eC_1
  refine EX.bd eh_2 ?_
  rw [N_]
  replace ta0 := ta0.up E_
  replace E := E.tr E_
  have Hc_ := H.cv rfl t_3 (by decide)
  obtain ⟨C_5, eC_5, hf⟩ := x_bind hf
  obtain ⟨h_4, eh_4, H, E_⟩ := g95_ok H rfl t_3 eC_5
  refine EX.bd Hc_ ?_
  refine EX.bd eh_4 ?_
  replace t_3 := t_3.up E_
  replace ta0 := ta0.up E_
  replace E := E.tr E_
  obtain ⟨C_6, eC_6, hf⟩ := x_bind hf
  obtain ⟨h_7, eh_7, H, E_⟩ := H.pR (ci := 5) (k := 0) (ty := (.object "DocFormat$Text")) rfl ta0 t_3 (by decide) (by decide) (by decide) rfl rfl eC_6
  refine EX.bd eh_7 ?_
  replace t_3 := t_3.up E_
  replace ta0 := ta0.up E_
  replace E := E.tr E_
  obtain ⟨C_8, eC_8, hf⟩ := x_bind hf
  obtain ⟨h_9, eh_9, N_, t_10, H, E_⟩ := H.nAI (tg := 13) (by decide) (by decide) eC_8
  refine EX.bd eh_9 ?_
  rw [N_]
  replace t_3 := t_3.up E_
  replace ta0 := ta0.up E_
  replace E := E.tr E_
  obtain ⟨C_11, eC_11, hf⟩ := x_bind hf
  obtain ⟨h_12, eh_12, H, E_⟩ := H.pR (ci := 5) (k := 1) (ty := (.array .int)) rfl ta0 t_10 (by decide) (by decide) (by decide) rfl rfl eC_11
  refine EX.bd eh_12 ?_
  replace t_10 := t_10.up E_
  replace t_3 := t_3.up E_
  replace ta0 := ta0.up E_
  replace E := E.tr E_
  obtain ⟨C_13, eC_13, hf⟩ := x_bind hf
  obtain ⟨h_14, eh_14, N_, t_15, H, E_⟩ := H.nAR (tg := 16) (by decide) (by decide) eC_13
  refine EX.bd eh_14 ?_
  rw [N_]
  replace t_10 := t_10.up E_
  replace t_3 := t_3.up E_
  replace ta0 := ta0.up E_
  replace E := E.tr E_
  obtain ⟨C_16, eC_16, hf⟩ := x_bind hf
  obtain ⟨h_17, eh_17, H, E_⟩ := H.pR (ci := 5) (k := 2) (ty := (.array (.object "DocFormat$Entry"))) rfl ta0 t_15 (by decide) (by decide) (by decide) rfl rfl eC_16
  refine EX.bd eh_17 ?_
  replace t_10 := t_10.up E_
  replace t_3 := t_3.up E_
  replace ta0 := ta0.up E_
  replace t_15 := t_15.up E_
  replace E := E.tr E_
  obtain rfl := Option.some.inj hf
  exact ⟨_, rfl, H, E⟩
end
section
theorem g60_ok {h : xH} {C : xC} {o0 : Option Nat} {a0 : Nat} {r : xC} (H : WH h C) (e0 : o0 = some a0) (ta0 : tR C o0 7) (hf : g60 a0 C = some r) : EX (fn60 o0 h) (fun z => z) (QC C r) := by
  subst e0
  have E := Ext.rfl' (C := C)
  unfold g60 at hf
  unfold fn60
  refine EX.bdS ?_
  obtain ⟨C_1, eC_1, hf⟩ := x_bind hf
  obtain ⟨h_2, eh_2, N_, t_3, H, E_⟩ := H.new (ci := 9) (fs := [.null, .int 0]) (by decide) rfl eC_1
  refine EX.bd eh_2 ?_
  rw [N_]
  replace ta0 := ta0.up E_
  replace E := E.tr E_
  have Hc_ := H.cv rfl t_3 (by decide)
  obtain ⟨C_5, eC_5, hf⟩ := x_bind hf
  obtain ⟨h_4, eh_4, H, E_⟩ := g95_ok H rfl t_3 eC_5
  refine EX.bd Hc_ ?_
  refine EX.bd eh_4 ?_
  replace t_3 := t_3.up E_
  replace ta0 := ta0.up E_
  replace E := E.tr E_
  obtain ⟨C_6, eC_6, hf⟩ := x_bind hf
  obtain ⟨h_7, eh_7, H, E_⟩ := H.pR (ci := 7) (k := 0) (ty := (.object "DocFormat$Text")) rfl ta0 t_3 (by decide) (by decide) (by decide) rfl rfl eC_6
  refine EX.bd eh_7 ?_
  replace t_3 := t_3.up E_
  replace ta0 := ta0.up E_
  replace E := E.tr E_
  obtain rfl := Option.some.inj hf
  exact ⟨_, rfl, H, E⟩
end
section
theorem gj62_41_ok {h : xH} {C : xC} {a0 : Nat} {x1 : Int32} {x2 : Int32} {r : xC} (H : WH h C) (ta0 : tR C (some a0) 7) (hf : gj62_41 a0 x1 x2 C = some r) : EX (j62_41 (some a0) x1 x2 h) (fun z => z) (QC C r) := by
  have E := Ext.rfl' (C := C)
  unfold gj62_41 at hf
  unfold j62_41
  obtain rfl := Option.some.inj hf
  exact ⟨_, rfl, H, E⟩
theorem gj62_31_ok {h : xH} {C : xC} {a0 : Nat} {x1 : Int32} {x2 : Int32} {r : xC} (H : WH h C) (ta0 : tR C (some a0) 7) (hf : gj62_31 a0 x1 x2 C = some r) : EX (j62_31 (some a0) x1 x2 h) (fun z => z) (QC C r) := by
  have E := Ext.rfl' (C := C)
  unfold gj62_31 at hf
  unfold j62_31
  obtain ⟨C_1, eC_1, hf⟩ := x_bind hf
  obtain ⟨h_2, eh_2, H, E_⟩ := H.pI rfl ta0 (by decide) (by decide) rfl (xfit_int _) eC_1
  refine EX.bd eh_2 ?_
  replace ta0 := ta0.up E_
  replace E := E.tr E_
  obtain ⟨C_3, eC_3, hf⟩ := x_bind hf
  obtain ⟨h_4, eh_4, H, E_⟩ := H.pI rfl ta0 (by decide) (by decide) rfl (xfit_int _) eC_3
  refine EX.bd eh_4 ?_
  replace ta0 := ta0.up E_
  replace E := E.tr E_
  exact EX.uC E (gj62_41_ok H ta0 hf)
theorem g62_ok {h : xH} {C : xC} {o0 : Option Nat} {a0 : Nat} {x1 : Int32} {x2 : Int32} {r : xC} (H : WH h C) (e0 : o0 = some a0) (ta0 : tR C o0 7) (hf : g62 a0 x1 x2 C = some r) : EX (fn62 o0 x1 x2 h) (fun z => z) (QC C r) := by
  subst e0
  have E := Ext.rfl' (C := C)
  unfold g62 at hf
  unfold fn62
  refine EX.bd (H.gI rfl ta0 (by decide) (by decide) rfl) ?_
  by_cases c_1 : (cI C a0 5) = 0
  · replace hf := x_pos c_1 hf
    refine EX.pos c_1 ?_
    exact EX.uC E (gj62_31_ok H ta0 hf)
  · replace hf := x_neg c_1 hf
    refine EX.neg c_1 ?_
    refine EX.bd (H.gI rfl ta0 (by decide) (by decide) rfl) ?_
    by_cases c_2 : x1 < (cI C a0 6)
    · replace hf := x_pos c_2 hf
      refine EX.pos c_2 ?_
      exact EX.uC E (gj62_31_ok H ta0 hf)
    · replace hf := x_neg c_2 hf
      refine EX.neg c_2 ?_
      refine EX.bd (H.gI rfl ta0 (by decide) (by decide) rfl) ?_
      by_cases c_3 : x1 = (cI C a0 6)
      · replace hf := x_pos c_3 hf
        refine EX.pos c_3 ?_
        refine EX.bd (H.gI rfl ta0 (by decide) (by decide) rfl) ?_
        by_cases c_4 : (cI C a0 5) ≤ x2
        · replace hf := x_pos c_4 hf
          refine EX.pos c_4 ?_
          exact EX.uC E (gj62_41_ok H ta0 hf)
        · replace hf := x_neg c_4 hf
          refine EX.neg c_4 ?_
          exact EX.uC E (gj62_31_ok H ta0 hf)
      · replace hf := x_neg c_3 hf
        refine EX.neg c_3 ?_
        exact EX.uC E (gj62_41_ok H ta0 hf)
end
section
theorem gj63_63_ok {h : xH} {C : xC} {a0 : Nat} {x1 : Int32} {r : xC} (H : WH h C) (ta0 : tR C (some a0) 7) (hf : gj63_63 a0 x1 C = some r) : EX (j63_63 (some a0) x1 h) (fun z => z) (QC C r) := by
  have E := Ext.rfl' (C := C)
  unfold gj63_63 at hf
  unfold j63_63
  obtain rfl := Option.some.inj hf
  exact ⟨_, rfl, H, E⟩
theorem gj63_57_ok {k2 : Nat → Int32 → xC → Option xC} {f2 : Option Nat → Int32 → xH → Option xH} (hk2 : ∀ {h : xH} {C : xC} {a0 : Nat} {x1 : Int32} {r : xC}, WH h C → tR C (some a0) 7 → k2 a0 x1 C = some r → EX (f2 (some a0) x1 h) (fun z => z) (QC C r)) {h : xH} {C : xC} {a0 : Nat} {x1 : Int32} {r : xC} (H : WH h C) (ta0 : tR C (some a0) 7) (hf : gj63_57 k2 a0 x1 C = some r) : EX (j63_57 f2 (some a0) x1 h) (fun z => z) (QC C r) := by
  have E := Ext.rfl' (C := C)
  unfold gj63_57 at hf
  unfold j63_57
  exact EX.uC E (hk2 H ta0 hf)
theorem gl63_2_ok : ∀ (n : Nat) {h : xH} {C : xC} {a0 : Nat} {x1 : Int32} {r : xC} (H : WH h C) (ta0 : tR C (some a0) 7), gl63_2 n a0 x1 C = some r → EX (l63_2 n (some a0) x1 h) (fun z => z) (QC C r) := by
  intro n
  induction n with
  | zero => intros; rename_i hf; cases hf
  | succ n ih =>
    intro h C a0 x1 r H ta0 hf
    have E := Ext.rfl' (C := C)
    replace hf : ((cR C a0 2).bind fun a_2 => (if (cI C a_2 1) ≤ x1 then gj63_63 a0 x1 C else (if (cI C a0 5) = 0 then (g96 a_2 x1 C).bind fun r_6 => (if r_6.1 = 10 then gj63_57 (gl63_2 n) a0 x1 r_6.2 else (cR r_6.2 a0 2).bind fun a_11 => (g96 a_11 x1 r_6.2).bind fun r_10 => (g135 r_10.1 32 126 r_10.2).bind fun r_13 => (if r_13.1 = 0 then (g62 a0 x1 1 r_13.2).bind fun C_16 => gj63_57 (gl63_2 n) a0 x1 C_16 else gj63_57 (gl63_2 n) a0 x1 r_13.2)) else gj63_63 a0 x1 C))) = some r := hf
    unfold l63_2
    refine EX.bd (H.gR rfl ta0 (by decide) (by decide) (by decide)) ?_
    have t_1 := H.tyR rfl ta0 (ci := 7) (k := 2) (by decide) (by decide) (by decide)
    obtain ⟨a_2, ea_2, hf⟩ := x_bind hf
    refine EX.bd (H.gI ea_2 t_1 (by decide) (by decide) rfl) ?_
    by_cases c_3 : (cI C a_2 1) ≤ x1
    · replace hf := x_pos c_3 hf
      refine EX.pos c_3 ?_
      exact EX.uC E (gj63_63_ok H ta0 hf)
    · replace hf := x_neg c_3 hf
      refine EX.neg c_3 ?_
      refine EX.bd (H.gI rfl ta0 (by decide) (by decide) rfl) ?_
      by_cases c_4 : (cI C a0 5) = 0
      · replace hf := x_pos c_4 hf
        refine EX.pos c_4 ?_
        refine EX.bd (H.gR rfl ta0 (by decide) (by decide) (by decide)) ?_
        have Hc_ := H.cv ea_2 t_1 (by decide)
        obtain ⟨r_6, er_6, hf⟩ := x_bind hf
        obtain ⟨h_5, eh_5, H, E_⟩ := g96_ok H ea_2 t_1 er_6
        refine EX.bd Hc_ ?_
        refine EX.bd eh_5 ?_
        dsimp only
        replace ta0 := ta0.up E_
        replace t_1 := t_1.up E_
        replace E := E.tr E_
        by_cases c_7 : r_6.1 = 10
        · replace hf := x_pos c_7 hf
          refine EX.pos c_7 ?_
          exact EX.uC E (gj63_57_ok (k2 := (gl63_2 n)) (f2 := (l63_2 n)) ih H ta0 hf)
        · replace hf := x_neg c_7 hf
          refine EX.neg c_7 ?_
          refine EX.bd (H.gR rfl ta0 (by decide) (by decide) (by decide)) ?_
          have t_8 := H.tyR rfl ta0 (ci := 7) (k := 2) (by decide) (by decide) (by decide)
          obtain ⟨a_11, ea_11, hf⟩ := x_bind hf
          have Hc_ := H.cv ea_11 t_8 (by decide)
          obtain ⟨r_10, er_10, hf⟩ := x_bind hf
          obtain ⟨h_9, eh_9, H, E_⟩ := g96_ok H ea_11 t_8 er_10
          refine EX.bd Hc_ ?_
          refine EX.bd eh_9 ?_
          dsimp only
          replace ta0 := ta0.up E_
          replace t_8 := t_8.up E_
          replace t_1 := t_1.up E_
          replace E := E.tr E_
          obtain ⟨r_13, er_13, hf⟩ := x_bind hf
          obtain ⟨h_12, eh_12, H, E_⟩ := g135_ok H er_13
          refine EX.bd eh_12 ?_
          dsimp only
          replace ta0 := ta0.up E_
          replace t_8 := t_8.up E_
          replace t_1 := t_1.up E_
          replace E := E.tr E_
          by_cases c_14 : r_13.1 = 0
          · replace hf := x_pos c_14 hf
            refine EX.pos c_14 ?_
            have Hc_ := H.cv rfl ta0 (by decide)
            obtain ⟨C_16, eC_16, hf⟩ := x_bind hf
            obtain ⟨h_15, eh_15, H, E_⟩ := g62_ok H rfl ta0 eC_16
            refine EX.bd Hc_ ?_
            refine EX.bd eh_15 ?_
            replace ta0 := ta0.up E_
            replace t_8 := t_8.up E_
            replace t_1 := t_1.up E_
            replace E := E.tr E_
            exact EX.uC E (gj63_57_ok (k2 := (gl63_2 n)) (f2 := (l63_2 n)) ih H ta0 hf)
          · replace hf := x_neg c_14 hf
            refine EX.neg c_14 ?_
            exact EX.uC E (gj63_57_ok (k2 := (gl63_2 n)) (f2 := (l63_2 n)) ih H ta0 hf)
      · replace hf := x_neg c_4 hf
        refine EX.neg c_4 ?_
        exact EX.uC E (gj63_63_ok H ta0 hf)
theorem g63_ok {h : xH} {C : xC} {o0 : Option Nat} {a0 : Nat} {r : xC} (H : WH h C) (e0 : o0 = some a0) (ta0 : tR C o0 7) (hf : g63 a0 C = some r) : EX (fn63 o0 h) (fun z => z) (QC C r) := by
  subst e0
  have E := Ext.rfl' (C := C)
  unfold g63 at hf
  unfold fn63
  exact EX.uC E (gl63_2_ok xFuel H ta0 hf)
end
section
theorem gj64_72_ok {h : xH} {C : xC} {a0 : Nat} {x1 : Int32} {x2 : Int32} {x3 : Int32} {s0 : Int32} {r : (Int32 × xC)} (H : WH h C) (ta0 : tR C (some a0) 7) (hf : gj64_72 a0 x1 x2 x3 s0 C = some r) : EX (j64_72 (some a0) x1 x2 x3 s0 h) (fun z => (r.1, z)) (QC C r.2) := by
  have E := Ext.rfl' (C := C)
  unfold gj64_72 at hf
  unfold j64_72
  obtain rfl := Option.some.inj hf
  exact ⟨_, rfl, H, E⟩
theorem gj64_62_ok {h : xH} {C : xC} {a0 : Nat} {x1 : Int32} {x2 : Int32} {s0 : Int32} {r : (Int32 × xC)} (H : WH h C) (ta0 : tR C (some a0) 7) (hf : gj64_62 a0 x1 x2 s0 C = some r) : EX (j64_62 (some a0) x1 x2 s0 h) (fun z => (r.1, z)) (QC C r.2) := by
  have E := Ext.rfl' (C := C)
  unfold gj64_62 at hf
  unfold j64_62
  by_cases c_1 : s0 = 0
  · replace hf := x_pos c_1 hf
    refine EX.pos c_1 ?_
    exact EX.uC E (gj64_72_ok H ta0 hf)
  · replace hf := x_neg c_1 hf
    refine EX.neg c_1 ?_
    exact EX.uC E (gj64_72_ok H ta0 hf)
theorem gj64_61_ok {h : xH} {C : xC} {a0 : Nat} {x1 : Int32} {x2 : Int32} {r : (Int32 × xC)} (H : WH h C) (ta0 : tR C (some a0) 7) (hf : gj64_61 a0 x1 x2 C = some r) : EX (j64_61 (some a0) x1 x2 h) (fun z => (r.1, z)) (QC C r.2) := by
  have E := Ext.rfl' (C := C)
  unfold gj64_61 at hf
  unfold j64_61
  exact EX.uC E (gj64_62_ok H ta0 hf)
theorem gj64_57_ok {h : xH} {C : xC} {a0 : Nat} {x1 : Int32} {x2 : Int32} {r : (Int32 × xC)} (H : WH h C) (ta0 : tR C (some a0) 7) (hf : gj64_57 a0 x1 x2 C = some r) : EX (j64_57 (some a0) x1 x2 h) (fun z => (r.1, z)) (QC C r.2) := by
  have E := Ext.rfl' (C := C)
  unfold gj64_57 at hf
  unfold j64_57
  exact EX.uC E (gj64_62_ok H ta0 hf)
theorem g64_ok {h : xH} {C : xC} {o0 : Option Nat} {a0 : Nat} {x1 : Int32} {x2 : Int32} {r : (Int32 × xC)} (H : WH h C) (e0 : o0 = some a0) (ta0 : tR C o0 7) (hf : g64 a0 x1 x2 C = some r) : EX (fn64 o0 x1 x2 h) (fun z => (r.1, z)) (QC C r.2) := by
  subst e0
  have E := Ext.rfl' (C := C)
  unfold g64 at hf
  unfold fn64
  by_cases c_1 : x1 < x2
  · replace hf := x_pos c_1 hf
    refine EX.pos c_1 ?_
    refine EX.bd (H.gR rfl ta0 (by decide) (by decide) (by decide)) ?_
    have t_2 := H.tyR rfl ta0 (ci := 7) (k := 2) (by decide) (by decide) (by decide)
    obtain ⟨a_5, ea_5, hf⟩ := x_bind hf
    have Hc_ := H.cv ea_5 t_2 (by decide)
    obtain ⟨r_4, er_4, hf⟩ := x_bind hf
    obtain ⟨h_3, eh_3, H, E_⟩ := g96_ok H ea_5 t_2 er_4
    refine EX.bd Hc_ ?_
    refine EX.bd eh_3 ?_
    dsimp only
    replace ta0 := ta0.up E_
    replace t_2 := t_2.up E_
    replace E := E.tr E_
    by_cases c_6 : r_4.1 = 64
    · replace hf := x_pos c_6 hf
      refine EX.pos c_6 ?_
      obtain rfl := Option.some.inj hf
      exact ⟨_, rfl, H, E⟩
    · replace hf := x_neg c_6 hf
      refine EX.neg c_6 ?_
      refine EX.bd (H.gR rfl ta0 (by decide) (by decide) (by decide)) ?_
      have t_7 := H.tyR rfl ta0 (ci := 7) (k := 2) (by decide) (by decide) (by decide)
      obtain ⟨a_10, ea_10, hf⟩ := x_bind hf
      have Hc_ := H.cv ea_10 t_7 (by decide)
      obtain ⟨r_9, er_9, hf⟩ := x_bind hf
      obtain ⟨h_8, eh_8, H, E_⟩ := g96_ok H ea_10 t_7 er_9
      refine EX.bd Hc_ ?_
      refine EX.bd eh_8 ?_
      dsimp only
      replace t_7 := t_7.up E_
      replace ta0 := ta0.up E_
      replace t_2 := t_2.up E_
      replace E := E.tr E_
      by_cases c_11 : r_9.1 = 45
      · replace hf := x_pos c_11 hf
        refine EX.pos c_11 ?_
        by_cases c_12 : (x1 + 1) = x2
        · replace hf := x_pos c_12 hf
          refine EX.pos c_12 ?_
          exact EX.uC E (gj64_57_ok H ta0 hf)
        · replace hf := x_neg c_12 hf
          refine EX.neg c_12 ?_
          refine EX.bd (H.gR rfl ta0 (by decide) (by decide) (by decide)) ?_
          have t_13 := H.tyR rfl ta0 (ci := 7) (k := 2) (by decide) (by decide) (by decide)
          obtain ⟨a_16, ea_16, hf⟩ := x_bind hf
          have Hc_ := H.cv ea_16 t_13 (by decide)
          obtain ⟨r_15, er_15, hf⟩ := x_bind hf
          obtain ⟨h_14, eh_14, H, E_⟩ := g96_ok H ea_16 t_13 er_15
          refine EX.bd Hc_ ?_
          refine EX.bd eh_14 ?_
          dsimp only
          replace t_7 := t_7.up E_
          replace ta0 := ta0.up E_
          replace t_13 := t_13.up E_
          replace t_2 := t_2.up E_
          replace E := E.tr E_
          by_cases c_17 : r_15.1 = 32
          · replace hf := x_pos c_17 hf
            refine EX.pos c_17 ?_
            exact EX.uC E (gj64_57_ok H ta0 hf)
          · replace hf := x_neg c_17 hf
            refine EX.neg c_17 ?_
            exact EX.uC E (gj64_61_ok H ta0 hf)
      · replace hf := x_neg c_11 hf
        refine EX.neg c_11 ?_
        exact EX.uC E (gj64_61_ok H ta0 hf)
  · replace hf := x_neg c_1 hf
    refine EX.neg c_1 ?_
    obtain rfl := Option.some.inj hf
    exact ⟨_, rfl, H, E⟩
end
section
theorem gj65_25_ok {h : xH} {C : xC} {a0 : Nat} {s0 : Int32} {r : (Int32 × xC)} (H : WH h C) (ta0 : tR C (some a0) 7) (hf : gj65_25 a0 s0 C = some r) : EX (j65_25 (some a0) s0 h) (fun z => (r.1, z)) (QC C r.2) := by
  have E := Ext.rfl' (C := C)
  unfold gj65_25 at hf
  unfold j65_25
  by_cases c_1 : s0 &&& 1 = s0
  · replace hf := x_pos c_1 hf
    refine EX.pos c_1 ?_
    obtain rfl := Option.some.inj hf
    exact ⟨_, rfl, H, E⟩
  · replace hf := x_neg c_1 hf
    cases hf
theorem gj65_24_ok {h : xH} {C : xC} {a0 : Nat} {r : (Int32 × xC)} (H : WH h C) (ta0 : tR C (some a0) 7) (hf : gj65_24 a0 C = some r) : EX (j65_24 (some a0) h) (fun z => (r.1, z)) (QC C r.2) := by
  have E := Ext.rfl' (C := C)
  unfold gj65_24 at hf
  unfold j65_24
  exact EX.uC E (gj65_25_ok H ta0 hf)
theorem g65_ok {h : xH} {C : xC} {o0 : Option Nat} {a0 : Nat} {r : (Int32 × xC)} (H : WH h C) (e0 : o0 = some a0) (ta0 : tR C o0 7) (hf : g65 a0 C = some r) : EX (fn65 o0 h) (fun z => (r.1, z)) (QC C r.2) := by
  subst e0
  have E := Ext.rfl' (C := C)
  unfold g65 at hf
  unfold fn65
  refine EX.bd (H.gR rfl ta0 (by decide) (by decide) (by decide)) ?_
  have t_1 := H.tyR rfl ta0 (ci := 7) (k := 3) (by decide) (by decide) (by decide)
  by_cases c_2 : (cR C a0 3) = none
  · replace hf := x_pos c_2 hf
    refine EX.pos c_2 ?_
    exact EX.uC E (gj65_24_ok H ta0 hf)
  · replace hf := x_neg c_2 hf
    refine EX.neg c_2 ?_
    refine EX.bd (H.gR rfl ta0 (by decide) (by decide) (by decide)) ?_
    obtain ⟨a_3, ea_3, hf⟩ := x_bind hf
    refine EX.bd (H.gI ea_3 t_1 (by decide) (by decide) rfl) ?_
    obtain ⟨r_5, er_5, hf⟩ := x_bind hf
    obtain ⟨h_4, eh_4, H, E_⟩ := g138_ok H er_5
    refine EX.bd eh_4 ?_
    dsimp only
    replace ta0 := ta0.up E_
    replace t_1 := t_1.up E_
    replace E := E.tr E_
    by_cases c_6 : r_5.1 = 0
    · replace hf := x_pos c_6 hf
      refine EX.pos c_6 ?_
      exact EX.uC E (gj65_24_ok H ta0 hf)
    · replace hf := x_neg c_6 hf
      refine EX.neg c_6 ?_
      exact EX.uC E (gj65_25_ok H ta0 hf)
end
section
theorem gj66_38_ok {h : xH} {C : xC} {a0 : Nat} {x1 : Int32} {x2 : Int32} {r : xC} (H : WH h C) (ta0 : tR C (some a0) 7) (hf : gj66_38 a0 x1 x2 C = some r) : EX (j66_38 (some a0) x1 x2 h) (fun z => z) (QC C r) := by
  have E := Ext.rfl' (C := C)
  unfold gj66_38 at hf
  unfold j66_38
  obtain rfl := Option.some.inj hf
  exact ⟨_, rfl, H, E⟩
theorem gj66_32_ok {h : xH} {C : xC} {a0 : Nat} {x1 : Int32} {x2 : Int32} {r : xC} (H : WH h C) (ta0 : tR C (some a0) 7) (hf : gj66_32 a0 x1 x2 C = some r) : EX (j66_32 (some a0) x1 x2 h) (fun z => z) (QC C r) := by
  have E := Ext.rfl' (C := C)
  unfold gj66_32 at hf
  unfold j66_32
  have Hc_ := H.cv rfl ta0 (by decide)
  obtain ⟨C_2, eC_2, hf⟩ := x_bind hf
  obtain ⟨h_1, eh_1, H, E_⟩ := g62_ok H rfl ta0 eC_2
  refine EX.bd Hc_ ?_
  refine EX.bd eh_1 ?_
  replace ta0 := ta0.up E_
  replace E := E.tr E_
  exact EX.uC E (gj66_38_ok H ta0 hf)
theorem g66_ok {h : xH} {C : xC} {o0 : Option Nat} {a0 : Nat} {x1 : Int32} {x2 : Int32} {r : xC} (H : WH h C) (e0 : o0 = some a0) (ta0 : tR C o0 7) (hf : g66 a0 x1 x2 C = some r) : EX (fn66 o0 x1 x2 h) (fun z => z) (QC C r) := by
  subst e0
  have E := Ext.rfl' (C := C)
  unfold g66 at hf
  unfold fn66
  refine EX.bd (H.gR rfl ta0 (by decide) (by decide) (by decide)) ?_
  have t_1 := H.tyR rfl ta0 (ci := 7) (k := 1) (by decide) (by decide) (by decide)
  obtain ⟨a_4, ea_4, hf⟩ := x_bind hf
  have Hc_ := H.cv ea_4 t_1 (by decide)
  obtain ⟨r_3, er_3, hf⟩ := x_bind hf
  obtain ⟨h_2, eh_2, H, E_, t_5⟩ := g7_ok H ea_4 t_1 er_3
  refine EX.bd Hc_ ?_
  refine EX.bd eh_2 ?_
  dsimp only
  replace ta0 := ta0.up E_
  replace t_1 := t_1.up E_
  replace E := E.tr E_
  obtain ⟨C_6, eC_6, hf⟩ := x_bind hf
  obtain ⟨h_7, eh_7, H, E_⟩ := H.pR (ci := 7) (k := 3) (ty := (.object "DocFormat$Block")) rfl ta0 t_5 (by decide) (by decide) (by decide) rfl rfl eC_6
  refine EX.bd eh_7 ?_
  replace ta0 := ta0.up E_
  replace t_1 := t_1.up E_
  replace E := E.tr E_
  refine EX.bd (H.gR rfl ta0 (by decide) (by decide) (by decide)) ?_
  have t_8 := H.tyR rfl ta0 (ci := 7) (k := 3) (by decide) (by decide) (by decide)
  by_cases c_9 : (cR C_6 a0 3) = none
  · replace hf := x_pos c_9 hf
    refine EX.pos c_9 ?_
    exact EX.uC E (gj66_32_ok H ta0 hf)
  · replace hf := x_neg c_9 hf
    refine EX.neg c_9 ?_
    refine EX.bd (H.gR rfl ta0 (by decide) (by decide) (by decide)) ?_
    have t_10 := H.tyR rfl ta0 (ci := 7) (k := 1) (by decide) (by decide) (by decide)
    obtain ⟨a_11, ea_11, hf⟩ := x_bind hf
    refine EX.bd (H.gI ea_11 t_10 (by decide) (by decide) rfl) ?_
    by_cases c_12 : (cI C_6 a_11 3) ≤ 24
    · replace hf := x_pos c_12 hf
      refine EX.pos c_12 ?_
      exact EX.uC E (gj66_38_ok H ta0 hf)
    · replace hf := x_neg c_12 hf
      refine EX.neg c_12 ?_
      exact EX.uC E (gj66_32_ok H ta0 hf)
end
section
theorem gj76_23_ok {h : xH} {C : xC} {x0 : Int32} {s0 : Int32} {r : (Int32 × xC)} (H : WH h C) (hf : gj76_23 x0 s0 C = some r) : EX (j76_23 x0 s0 h) (fun z => (r.1, z)) (QC C r.2) := by
  have E := Ext.rfl' (C := C)
  unfold gj76_23 at hf
  unfold j76_23
  by_cases c_1 : s0 &&& 1 = s0
  · replace hf := x_pos c_1 hf
    refine EX.pos c_1 ?_
    obtain rfl := Option.some.inj hf
    exact ⟨_, rfl, H, E⟩
  · replace hf := x_neg c_1 hf
    cases hf
theorem gj76_18_ok {h : xH} {C : xC} {x0 : Int32} {r : (Int32 × xC)} (H : WH h C) (hf : gj76_18 x0 C = some r) : EX (j76_18 x0 h) (fun z => (r.1, z)) (QC C r.2) := by
  have E := Ext.rfl' (C := C)
  unfold gj76_18 at hf
  unfold j76_18
  exact EX.uC E (gj76_23_ok H hf)
theorem g76_ok {h : xH} {C : xC} {x0 : Int32} {r : (Int32 × xC)} (H : WH h C) (hf : g76 x0 C = some r) : EX (fn76 x0 h) (fun z => (r.1, z)) (QC C r.2) := by
  have E := Ext.rfl' (C := C)
  unfold g76 at hf
  unfold fn76
  by_cases c_1 : x0 = 32
  · replace hf := x_pos c_1 hf
    refine EX.pos c_1 ?_
    exact EX.uC E (gj76_18_ok H hf)
  · replace hf := x_neg c_1 hf
    refine EX.neg c_1 ?_
    by_cases c_2 : x0 = 123
    · replace hf := x_pos c_2 hf
      refine EX.pos c_2 ?_
      exact EX.uC E (gj76_18_ok H hf)
    · replace hf := x_neg c_2 hf
      refine EX.neg c_2 ?_
      by_cases c_3 : x0 = 125
      · replace hf := x_pos c_3 hf
        refine EX.pos c_3 ?_
        exact EX.uC E (gj76_18_ok H hf)
      · replace hf := x_neg c_3 hf
        refine EX.neg c_3 ?_
        exact EX.uC E (gj76_23_ok H hf)
end
section
theorem gj77_34_ok {h : xH} {C : xC} {a0 : Nat} {x1 : Int32} {x2 : Int32} {x3 : Int32} {o4 : Option Nat} {r : (Option Nat × xC)} (H : WH h C) (ta0 : tR C (some a0) 7) (to4 : tR C o4 6) (hf : gj77_34 a0 x1 x2 x3 o4 C = some r) : EX (j77_34 (some a0) x1 x2 x3 o4 h) (fun z => (r.1, z)) (QR 6 C r) := by
  have E := Ext.rfl' (C := C)
  unfold gj77_34 at hf
  unfold j77_34
  obtain rfl := Option.some.inj hf
  exact ⟨_, rfl, H, E, to4⟩
theorem g77_ok {h : xH} {C : xC} {o0 : Option Nat} {a0 : Nat} {x1 : Int32} {x2 : Int32} {x3 : Int32} {r : (Option Nat × xC)} (H : WH h C) (e0 : o0 = some a0) (ta0 : tR C o0 7) (hf : g77 a0 x1 x2 x3 C = some r) : EX (fn77 o0 x1 x2 x3 h) (fun z => (r.1, z)) (QR 6 C r) := by
  subst e0
  have E := Ext.rfl' (C := C)
  unfold g77 at hf
  unfold fn77
  by_cases c_1 : x3 = 0
  · replace hf := x_pos c_1 hf
    refine EX.pos c_1 ?_
    have Hc_ := H.cv rfl ta0 (by decide)
    obtain ⟨C_3, eC_3, hf⟩ := x_bind hf
    obtain ⟨h_2, eh_2, H, E_⟩ := g62_ok H rfl ta0 eC_3
    refine EX.bd Hc_ ?_
    refine EX.bd eh_2 ?_
    replace ta0 := ta0.up E_
    replace E := E.tr E_
    obtain rfl := Option.some.inj hf
    exact ⟨_, rfl, H, E, tR_none⟩
  · replace hf := x_neg c_1 hf
    refine EX.neg c_1 ?_
    refine EX.bd (H.gR rfl ta0 (by decide) (by decide) (by decide)) ?_
    have t_4 := H.tyR rfl ta0 (ci := 7) (k := 1) (by decide) (by decide) (by decide)
    obtain ⟨a_7, ea_7, hf⟩ := x_bind hf
    have Hc_ := H.cv ea_7 t_4 (by decide)
    obtain ⟨r_6, er_6, hf⟩ := x_bind hf
    obtain ⟨h_5, eh_5, H, E_, t_8⟩ := g8_ok H ea_7 t_4 er_6
    refine EX.bd Hc_ ?_
    refine EX.bd eh_5 ?_
    dsimp only
    replace ta0 := ta0.up E_
    replace t_4 := t_4.up E_
    replace E := E.tr E_
    by_cases c_9 : r_6.1 = none
    · replace hf := x_pos c_9 hf
      refine EX.pos c_9 ?_
      have Hc_ := H.cv rfl ta0 (by decide)
      obtain ⟨C_11, eC_11, hf⟩ := x_bind hf
      obtain ⟨h_10, eh_10, H, E_⟩ := g62_ok H rfl ta0 eC_11
      refine EX.bd Hc_ ?_
      refine EX.bd eh_10 ?_
      replace t_8 := t_8.up E_
      replace ta0 := ta0.up E_
      replace t_4 := t_4.up E_
      replace E := E.tr E_
      exact EX.uR E (gj77_34_ok H ta0 t_8 hf)
    · replace hf := x_neg c_9 hf
      refine EX.neg c_9 ?_
      exact EX.uR E (gj77_34_ok H ta0 t_8 hf)
end
section
theorem gj75_40_ok {h : xH} {C : xC} {a0 : Nat} {x1 : Int32} {x2 : Int32} {x3 : Int32} {s0 : Nat} {s1 : Int32} {s2 : Int32} {s3 : Int32} {r : (Option Nat × xC)} (H : WH h C) (ta0 : tR C (some a0) 7) (ts0 : tR C (some s0) 7) (hf : gj75_40 a0 x1 x2 x3 s0 s1 s2 s3 C = some r) : EX (j75_40 (some a0) x1 x2 x3 (some s0) s1 s2 s3 h) (fun z => (r.1, z)) (QR 6 C r) := by
  have E := Ext.rfl' (C := C)
  unfold gj75_40 at hf
  unfold j75_40
  have Hc_ := H.cv rfl ts0 (by decide)
  obtain ⟨r_2, er_2, hf⟩ := x_bind hf
  obtain ⟨h_1, eh_1, H, E_, t_3⟩ := g77_ok H rfl ts0 er_2
  refine EX.bd Hc_ ?_
  refine EX.bd eh_1 ?_
  dsimp only
  replace ta0 := ta0.up E_
  replace ts0 := ts0.up E_
  replace E := E.tr E_
  obtain rfl := Option.some.inj hf
  exact ⟨_, rfl, H, E, t_3⟩
theorem gj75_27_ok {h : xH} {C : xC} {a0 : Nat} {x1 : Int32} {x2 : Int32} {x3 : Int32} {r : (Option Nat × xC)} (H : WH h C) (ta0 : tR C (some a0) 7) (hf : gj75_27 a0 x1 x2 x3 C = some r) : EX (j75_27 (some a0) x1 x2 x3 h) (fun z => (r.1, z)) (QR 6 C r) := by
  have E := Ext.rfl' (C := C)
  unfold gj75_27 at hf
  unfold j75_27
  by_cases c_1 : x3 ≤ x1
  · replace hf := x_pos c_1 hf
    refine EX.pos c_1 ?_
    exact EX.uR E (gj75_40_ok H ta0 ta0 hf)
  · replace hf := x_neg c_1 hf
    refine EX.neg c_1 ?_
    exact EX.uR E (gj75_40_ok H ta0 ta0 hf)
theorem gl75_2_ok : ∀ (n : Nat) {h : xH} {C : xC} {a0 : Nat} {x1 : Int32} {x2 : Int32} {x3 : Int32} {r : (Option Nat × xC)} (H : WH h C) (ta0 : tR C (some a0) 7), gl75_2 n a0 x1 x2 x3 C = some r → EX (l75_2 n (some a0) x1 x2 x3 h) (fun z => (r.1, z)) (QR 6 C r) := by
  intro n
  induction n with
  | zero => intros; rename_i hf; cases hf
  | succ n ih =>
    intro h C a0 x1 x2 x3 r H ta0 hf
    have E := Ext.rfl' (C := C)
    replace hf : ((if x2 ≤ x3 then gj75_27 a0 x1 x2 x3 C else (cR C a0 2).bind fun a_5 => (g96 a_5 x3 C).bind fun r_4 => (g76 r_4.1 r_4.2).bind fun r_7 => (if r_7.1 = 0 then gl75_2 n a0 x1 x2 (x3 + 1) r_7.2 else gj75_27 a0 x1 x2 x3 r_7.2))) = some r := hf
    unfold l75_2
    by_cases c_1 : x2 ≤ x3
    · replace hf := x_pos c_1 hf
      refine EX.pos c_1 ?_
      exact EX.uR E (gj75_27_ok H ta0 hf)
    · replace hf := x_neg c_1 hf
      refine EX.neg c_1 ?_
      refine EX.bd (H.gR rfl ta0 (by decide) (by decide) (by decide)) ?_
      have t_2 := H.tyR rfl ta0 (ci := 7) (k := 2) (by decide) (by decide) (by decide)
      obtain ⟨a_5, ea_5, hf⟩ := x_bind hf
      have Hc_ := H.cv ea_5 t_2 (by decide)
      obtain ⟨r_4, er_4, hf⟩ := x_bind hf
      obtain ⟨h_3, eh_3, H, E_⟩ := g96_ok H ea_5 t_2 er_4
      refine EX.bd Hc_ ?_
      refine EX.bd eh_3 ?_
      dsimp only
      replace ta0 := ta0.up E_
      replace t_2 := t_2.up E_
      replace E := E.tr E_
      obtain ⟨r_7, er_7, hf⟩ := x_bind hf
      obtain ⟨h_6, eh_6, H, E_⟩ := g76_ok H er_7
      refine EX.bd eh_6 ?_
      dsimp only
      replace ta0 := ta0.up E_
      replace t_2 := t_2.up E_
      replace E := E.tr E_
      by_cases c_8 : r_7.1 = 0
      · replace hf := x_pos c_8 hf
        refine EX.pos c_8 ?_
        exact EX.uR E (ih H ta0 hf)
      · replace hf := x_neg c_8 hf
        refine EX.neg c_8 ?_
        exact EX.uR E (gj75_27_ok H ta0 hf)
theorem g75_ok {h : xH} {C : xC} {o0 : Option Nat} {a0 : Nat} {x1 : Int32} {x2 : Int32} {r : (Option Nat × xC)} (H : WH h C) (e0 : o0 = some a0) (ta0 : tR C o0 7) (hf : g75 a0 x1 x2 C = some r) : EX (fn75 o0 x1 x2 h) (fun z => (r.1, z)) (QR 6 C r) := by
  subst e0
  have E := Ext.rfl' (C := C)
  unfold g75 at hf
  unfold fn75
  exact EX.uR E (gl75_2_ok xFuel H ta0 hf)
end
section
theorem gj78_121_ok {h : xH} {C : xC} {a0 : Nat} {x1 : Int32} {x2 : Int32} {x3 : Int32} {x4 : Int32} {x5 : Int32} {o6 : Option Nat} {r : (Option Nat × xC)} (H : WH h C) (ta0 : tR C (some a0) 7) (to6 : tR C o6 6) (hf : gj78_121 a0 x1 x2 x3 x4 x5 o6 C = some r) : EX (j78_121 (some a0) x1 x2 x3 x4 x5 o6 h) (fun z => (r.1, z)) (QR 6 C r) := by
  have E := Ext.rfl' (C := C)
  unfold gj78_121 at hf
  unfold j78_121
  obtain rfl := Option.some.inj hf
  exact ⟨_, rfl, H, E, to6⟩
theorem gj78_99_ok {h : xH} {C : xC} {a0 : Nat} {x1 : Int32} {x2 : Int32} {x3 : Int32} {x4 : Int32} {x5 : Int32} {s0 : Nat} {s1 : Int32} {s2 : Int32} {s3 : Int32} {r : (Option Nat × xC)} (H : WH h C) (ta0 : tR C (some a0) 7) (ts0 : tR C (some s0) 7) (hf : gj78_99 a0 x1 x2 x3 x4 x5 s0 s1 s2 s3 C = some r) : EX (j78_99 (some a0) x1 x2 x3 x4 x5 (some s0) s1 s2 s3 h) (fun z => (r.1, z)) (QR 6 C r) := by
  have E := Ext.rfl' (C := C)
  unfold gj78_99 at hf
  unfold j78_99
  have Hc_ := H.cv rfl ts0 (by decide)
  obtain ⟨r_2, er_2, hf⟩ := x_bind hf
  obtain ⟨h_1, eh_1, H, E_, t_3⟩ := g77_ok H rfl ts0 er_2
  refine EX.bd Hc_ ?_
  refine EX.bd eh_1 ?_
  dsimp only
  replace ta0 := ta0.up E_
  replace ts0 := ts0.up E_
  replace E := E.tr E_
  by_cases c_4 : r_2.1 = none
  · replace hf := x_pos c_4 hf
    refine EX.pos c_4 ?_
    exact EX.uR E (gj78_121_ok H ta0 t_3 hf)
  · replace hf := x_neg c_4 hf
    refine EX.neg c_4 ?_
    obtain ⟨a_7, ea_7, hf⟩ := x_bind hf
    obtain ⟨C_5, eC_5, hf⟩ := x_bind hf
    obtain ⟨h_6, eh_6, H, E_⟩ := H.pI ea_7 t_3 (by decide) (by decide) rfl (xfit_int _) eC_5
    refine EX.bd eh_6 ?_
    replace t_3 := t_3.up E_
    replace ta0 := ta0.up E_
    replace ts0 := ts0.up E_
    replace E := E.tr E_
    obtain ⟨C_8, eC_8, hf⟩ := x_bind hf
    obtain ⟨h_9, eh_9, H, E_⟩ := H.pI ea_7 t_3 (by decide) (by decide) rfl (xfit_int _) eC_8
    refine EX.bd eh_9 ?_
    replace t_3 := t_3.up E_
    replace ta0 := ta0.up E_
    replace ts0 := ts0.up E_
    replace E := E.tr E_
    exact EX.uR E (gj78_121_ok H ta0 t_3 hf)
theorem gj78_98_ok {h : xH} {C : xC} {a0 : Nat} {x1 : Int32} {x2 : Int32} {x3 : Int32} {x4 : Int32} {x5 : Int32} {s0 : Nat} {s1 : Int32} {s2 : Int32} {r : (Option Nat × xC)} (H : WH h C) (ta0 : tR C (some a0) 7) (ts0 : tR C (some s0) 7) (hf : gj78_98 a0 x1 x2 x3 x4 x5 s0 s1 s2 C = some r) : EX (j78_98 (some a0) x1 x2 x3 x4 x5 (some s0) s1 s2 h) (fun z => (r.1, z)) (QR 6 C r) := by
  have E := Ext.rfl' (C := C)
  unfold gj78_98 at hf
  unfold j78_98
  exact EX.uR E (gj78_99_ok H ta0 ts0 hf)
theorem gj78_68_ok {h : xH} {C : xC} {a0 : Nat} {x1 : Int32} {x2 : Int32} {x3 : Int32} {x4 : Int32} {x5 : Int32} {r : (Option Nat × xC)} (H : WH h C) (ta0 : tR C (some a0) 7) (hf : gj78_68 a0 x1 x2 x3 x4 x5 C = some r) : EX (j78_68 (some a0) x1 x2 x3 x4 x5 h) (fun z => (r.1, z)) (QR 6 C r) := by
  have E := Ext.rfl' (C := C)
  unfold gj78_68 at hf
  unfold j78_68
  by_cases c_1 : x4 = 0
  · replace hf := x_pos c_1 hf
    refine EX.pos c_1 ?_
    obtain ⟨r_3, er_3, hf⟩ := x_bind hf
    obtain ⟨h_2, eh_2, H, E_⟩ := g135_ok H er_3
    refine EX.bd eh_2 ?_
    dsimp only
    replace ta0 := ta0.up E_
    replace E := E.tr E_
    by_cases c_4 : r_3.1 = 0
    · replace hf := x_pos c_4 hf
      refine EX.pos c_4 ?_
      exact EX.uR E (gj78_98_ok H ta0 ta0 hf)
    · replace hf := x_neg c_4 hf
      refine EX.neg c_4 ?_
      exact EX.uR E (gj78_99_ok H ta0 ta0 hf)
  · replace hf := x_neg c_1 hf
    refine EX.neg c_1 ?_
    exact EX.uR E (gj78_98_ok H ta0 ta0 hf)
theorem gj78_62_ok {k14 : Nat → Int32 → Int32 → Int32 → Int32 → Int32 → xC → Option (Option Nat × xC)} {f14 : Option Nat → Int32 → Int32 → Int32 → Int32 → Int32 → xH → Option (Option Nat × xH)} (hk14 : ∀ {h : xH} {C : xC} {a0 : Nat} {x1 : Int32} {x2 : Int32} {x3 : Int32} {x4 : Int32} {x5 : Int32} {r : (Option Nat × xC)}, WH h C → tR C (some a0) 7 → k14 a0 x1 x2 x3 x4 x5 C = some r → EX (f14 (some a0) x1 x2 x3 x4 x5 h) (fun z => (r.1, z)) (QR 6 C r)) {h : xH} {C : xC} {a0 : Nat} {x1 : Int32} {x2 : Int32} {x3 : Int32} {x4 : Int32} {x5 : Int32} {r : (Option Nat × xC)} (H : WH h C) (ta0 : tR C (some a0) 7) (hf : gj78_62 k14 a0 x1 x2 x3 x4 x5 C = some r) : EX (j78_62 f14 (some a0) x1 x2 x3 x4 x5 h) (fun z => (r.1, z)) (QR 6 C r) := by
  have E := Ext.rfl' (C := C)
  unfold gj78_62 at hf
  unfold j78_62
  exact EX.uR E (hk14 H ta0 hf)
theorem gl78_14_ok : ∀ (n : Nat) {h : xH} {C : xC} {a0 : Nat} {x1 : Int32} {x2 : Int32} {x3 : Int32} {x4 : Int32} {x5 : Int32} {r : (Option Nat × xC)} (H : WH h C) (ta0 : tR C (some a0) 7), gl78_14 n a0 x1 x2 x3 x4 x5 C = some r → EX (l78_14 n (some a0) x1 x2 x3 x4 x5 h) (fun z => (r.1, z)) (QR 6 C r) := by
  intro n
  induction n with
  | zero => intros; rename_i hf; cases hf
  | succ n ih =>
    intro h C a0 x1 x2 x3 x4 x5 r H ta0 hf
    have E := Ext.rfl' (C := C)
    replace hf : ((if x2 ≤ x5 then gj78_68 a0 x1 x2 x3 x4 x5 C else (if x4 ≤ 0 then gj78_68 a0 x1 x2 x3 x4 x5 C else (cR C a0 2).bind fun a_6 => (g96 a_6 x5 C).bind fun r_5 => (if r_5.1 = 123 then gj78_62 (gl78_14 n) a0 x1 x2 x3 (x4 + 1) x5 r_5.2 else (cR r_5.2 a0 2).bind fun a_11 => (g96 a_11 x5 r_5.2).bind fun r_10 => (if r_10.1 = 125 then gj78_62 (gl78_14 n) a0 x1 x2 x3 (x4 + (-1)) x5 r_10.2 else gj78_62 (gl78_14 n) a0 x1 x2 x3 x4 x5 r_10.2))))) = some r := hf
    unfold l78_14
    by_cases c_1 : x2 ≤ x5
    · replace hf := x_pos c_1 hf
      refine EX.pos c_1 ?_
      exact EX.uR E (gj78_68_ok H ta0 hf)
    · replace hf := x_neg c_1 hf
      refine EX.neg c_1 ?_
      by_cases c_2 : x4 ≤ 0
      · replace hf := x_pos c_2 hf
        refine EX.pos c_2 ?_
        exact EX.uR E (gj78_68_ok H ta0 hf)
      · replace hf := x_neg c_2 hf
        refine EX.neg c_2 ?_
        refine EX.bd (H.gR rfl ta0 (by decide) (by decide) (by decide)) ?_
        have t_3 := H.tyR rfl ta0 (ci := 7) (k := 2) (by decide) (by decide) (by decide)
        obtain ⟨a_6, ea_6, hf⟩ := x_bind hf
        have Hc_ := H.cv ea_6 t_3 (by decide)
        obtain ⟨r_5, er_5, hf⟩ := x_bind hf
        obtain ⟨h_4, eh_4, H, E_⟩ := g96_ok H ea_6 t_3 er_5
        refine EX.bd Hc_ ?_
        refine EX.bd eh_4 ?_
        dsimp only
        replace ta0 := ta0.up E_
        replace t_3 := t_3.up E_
        replace E := E.tr E_
        by_cases c_7 : r_5.1 = 123
        · replace hf := x_pos c_7 hf
          refine EX.pos c_7 ?_
          exact EX.uR E (gj78_62_ok (k14 := (gl78_14 n)) (f14 := (l78_14 n)) ih H ta0 hf)
        · replace hf := x_neg c_7 hf
          refine EX.neg c_7 ?_
          refine EX.bd (H.gR rfl ta0 (by decide) (by decide) (by decide)) ?_
          have t_8 := H.tyR rfl ta0 (ci := 7) (k := 2) (by decide) (by decide) (by decide)
          obtain ⟨a_11, ea_11, hf⟩ := x_bind hf
          have Hc_ := H.cv ea_11 t_8 (by decide)
          obtain ⟨r_10, er_10, hf⟩ := x_bind hf
          obtain ⟨h_9, eh_9, H, E_⟩ := g96_ok H ea_11 t_8 er_10
          refine EX.bd Hc_ ?_
          refine EX.bd eh_9 ?_
          dsimp only
          replace ta0 := ta0.up E_
          replace t_8 := t_8.up E_
          replace t_3 := t_3.up E_
          replace E := E.tr E_
          by_cases c_12 : r_10.1 = 125
          · replace hf := x_pos c_12 hf
            refine EX.pos c_12 ?_
            exact EX.uR E (gj78_62_ok (k14 := (gl78_14 n)) (f14 := (l78_14 n)) ih H ta0 hf)
          · replace hf := x_neg c_12 hf
            refine EX.neg c_12 ?_
            exact EX.uR E (gj78_62_ok (k14 := (gl78_14 n)) (f14 := (l78_14 n)) ih H ta0 hf)
theorem g78_ok {h : xH} {C : xC} {o0 : Option Nat} {a0 : Nat} {x1 : Int32} {x2 : Int32} {r : (Option Nat × xC)} (H : WH h C) (e0 : o0 = some a0) (ta0 : tR C o0 7) (hf : g78 a0 x1 x2 C = some r) : EX (fn78 o0 x1 x2 h) (fun z => (r.1, z)) (QR 6 C r) := by
  subst e0
  have E := Ext.rfl' (C := C)
  unfold g78 at hf
  unfold fn78
  obtain ⟨v_1, ev_1, hf⟩ := x_bind hf
  refine EX.bd ev_1 ?_
  exact EX.uR E (gl78_14_ok xFuel H ta0 hf)
end
section
theorem gj80_47_ok {h : xH} {C : xC} {a0 : Nat} {x1 : Int32} {x2 : Int32} {s0 : Int32} {r : (Int32 × xC)} (H : WH h C) (ta0 : tR C (some a0) 7) (hf : gj80_47 a0 x1 x2 s0 C = some r) : EX (j80_47 (some a0) x1 x2 s0 h) (fun z => (r.1, z)) (QC C r.2) := by
  have E := Ext.rfl' (C := C)
  unfold gj80_47 at hf
  unfold j80_47
  by_cases c_1 : s0 &&& 1 = s0
  · replace hf := x_pos c_1 hf
    refine EX.pos c_1 ?_
    obtain rfl := Option.some.inj hf
    exact ⟨_, rfl, H, E⟩
  · replace hf := x_neg c_1 hf
    cases hf
theorem gj80_46_ok {h : xH} {C : xC} {a0 : Nat} {x1 : Int32} {x2 : Int32} {r : (Int32 × xC)} (H : WH h C) (ta0 : tR C (some a0) 7) (hf : gj80_46 a0 x1 x2 C = some r) : EX (j80_46 (some a0) x1 x2 h) (fun z => (r.1, z)) (QC C r.2) := by
  have E := Ext.rfl' (C := C)
  unfold gj80_46 at hf
  unfold j80_46
  exact EX.uC E (gj80_47_ok H ta0 hf)
theorem g80_ok {h : xH} {C : xC} {o0 : Option Nat} {a0 : Nat} {x1 : Int32} {x2 : Int32} {r : (Int32 × xC)} (H : WH h C) (e0 : o0 = some a0) (ta0 : tR C o0 7) (hf : g80 a0 x1 x2 C = some r) : EX (fn80 o0 x1 x2 h) (fun z => (r.1, z)) (QC C r.2) := by
  subst e0
  have E := Ext.rfl' (C := C)
  unfold g80 at hf
  unfold fn80
  obtain ⟨r_2, er_2, hf⟩ := x_bind hf
  obtain ⟨h_1, eh_1, H, E_⟩ := g135_ok H er_2
  refine EX.bd eh_1 ?_
  dsimp only
  replace ta0 := ta0.up E_
  replace E := E.tr E_
  by_cases c_3 : r_2.1 = 0
  · replace hf := x_pos c_3 hf
    refine EX.pos c_3 ?_
    exact EX.uC E (gj80_46_ok H ta0 hf)
  · replace hf := x_neg c_3 hf
    refine EX.neg c_3 ?_
    refine EX.bd (H.gR rfl ta0 (by decide) (by decide) (by decide)) ?_
    have t_4 := H.tyR rfl ta0 (ci := 7) (k := 2) (by decide) (by decide) (by decide)
    obtain ⟨a_7, ea_7, hf⟩ := x_bind hf
    have Hc_ := H.cv ea_7 t_4 (by decide)
    obtain ⟨r_6, er_6, hf⟩ := x_bind hf
    obtain ⟨h_5, eh_5, H, E_⟩ := g96_ok H ea_7 t_4 er_6
    refine EX.bd Hc_ ?_
    refine EX.bd eh_5 ?_
    dsimp only
    replace ta0 := ta0.up E_
    replace t_4 := t_4.up E_
    replace E := E.tr E_
    by_cases c_8 : r_6.1 = 32
    · replace hf := x_pos c_8 hf
      refine EX.pos c_8 ?_
      exact EX.uC E (gj80_46_ok H ta0 hf)
    · replace hf := x_neg c_8 hf
      refine EX.neg c_8 ?_
      refine EX.bd (H.gR rfl ta0 (by decide) (by decide) (by decide)) ?_
      have t_9 := H.tyR rfl ta0 (ci := 7) (k := 2) (by decide) (by decide) (by decide)
      obtain ⟨a_12, ea_12, hf⟩ := x_bind hf
      have Hc_ := H.cv ea_12 t_9 (by decide)
      obtain ⟨r_11, er_11, hf⟩ := x_bind hf
      obtain ⟨h_10, eh_10, H, E_⟩ := g105_ok H ea_12 t_9 er_11
      refine EX.bd Hc_ ?_
      refine EX.bd eh_10 ?_
      dsimp only
      replace ta0 := ta0.up E_
      replace t_4 := t_4.up E_
      replace t_9 := t_9.up E_
      replace E := E.tr E_
      by_cases c_13 : r_11.1 = x2
      · replace hf := x_pos c_13 hf
        refine EX.pos c_13 ?_
        exact EX.uC E (gj80_47_ok H ta0 hf)
      · replace hf := x_neg c_13 hf
        refine EX.neg c_13 ?_
        exact EX.uC E (gj80_46_ok H ta0 hf)
end
section
theorem gj106_23_ok {h : xH} {C : xC} {a0 : Nat} {x1 : Int32} {x2 : Int32} {x3 : Int32} {r : (Int32 × xC)} (H : WH h C) (ta0 : tR C (some a0) 9) (hf : gj106_23 a0 x1 x2 x3 C = some r) : EX (j106_23 (some a0) x1 x2 x3 h) (fun z => (r.1, z)) (QC C r.2) := by
  have E := Ext.rfl' (C := C)
  unfold gj106_23 at hf
  unfold j106_23
  obtain rfl := Option.some.inj hf
  exact ⟨_, rfl, H, E⟩
theorem gl106_2_ok : ∀ (n : Nat) {h : xH} {C : xC} {a0 : Nat} {x1 : Int32} {x2 : Int32} {x3 : Int32} {r : (Int32 × xC)} (H : WH h C) (ta0 : tR C (some a0) 9), gl106_2 n a0 x1 x2 x3 C = some r → EX (l106_2 n (some a0) x1 x2 x3 h) (fun z => (r.1, z)) (QC C r.2) := by
  intro n
  induction n with
  | zero => intros; rename_i hf; cases hf
  | succ n ih =>
    intro h C a0 x1 x2 x3 r H ta0 hf
    have E := Ext.rfl' (C := C)
    replace hf : ((if x2 ≤ x3 then gj106_23 a0 x1 x2 x3 C else (g96 a0 x3 C).bind fun r_3 => (if r_3.1 = 32 then gl106_2 n a0 x1 x2 (x3 + 1) r_3.2 else gj106_23 a0 x1 x2 x3 r_3.2))) = some r := hf
    unfold l106_2
    by_cases c_1 : x2 ≤ x3
    · replace hf := x_pos c_1 hf
      refine EX.pos c_1 ?_
      exact EX.uC E (gj106_23_ok H ta0 hf)
    · replace hf := x_neg c_1 hf
      refine EX.neg c_1 ?_
      have Hc_ := H.cv rfl ta0 (by decide)
      obtain ⟨r_3, er_3, hf⟩ := x_bind hf
      obtain ⟨h_2, eh_2, H, E_⟩ := g96_ok H rfl ta0 er_3
      refine EX.bd Hc_ ?_
      refine EX.bd eh_2 ?_
      dsimp only
      replace ta0 := ta0.up E_
      replace E := E.tr E_
      by_cases c_4 : r_3.1 = 32
      · replace hf := x_pos c_4 hf
        refine EX.pos c_4 ?_
        exact EX.uC E (ih H ta0 hf)
      · replace hf := x_neg c_4 hf
        refine EX.neg c_4 ?_
        exact EX.uC E (gj106_23_ok H ta0 hf)
theorem g106_ok {h : xH} {C : xC} {o0 : Option Nat} {a0 : Nat} {x1 : Int32} {x2 : Int32} {r : (Int32 × xC)} (H : WH h C) (e0 : o0 = some a0) (ta0 : tR C o0 9) (hf : g106 a0 x1 x2 C = some r) : EX (fn106 o0 x1 x2 h) (fun z => (r.1, z)) (QC C r.2) := by
  subst e0
  have E := Ext.rfl' (C := C)
  unfold g106 at hf
  unfold fn106
  exact EX.uC E (gl106_2_ok xFuel H ta0 hf)
end
section
theorem gj136_17_ok {h : xH} {C : xC} {x0 : Int32} {s0 : Int32} {r : (Int32 × xC)} (H : WH h C) (hf : gj136_17 x0 s0 C = some r) : EX (j136_17 x0 s0 h) (fun z => (r.1, z)) (QC C r.2) := by
  have E := Ext.rfl' (C := C)
  unfold gj136_17 at hf
  unfold j136_17
  by_cases c_1 : s0 &&& 1 = s0
  · replace hf := x_pos c_1 hf
    refine EX.pos c_1 ?_
    obtain rfl := Option.some.inj hf
    exact ⟨_, rfl, H, E⟩
  · replace hf := x_neg c_1 hf
    cases hf
theorem gj136_16_ok {h : xH} {C : xC} {x0 : Int32} {r : (Int32 × xC)} (H : WH h C) (hf : gj136_16 x0 C = some r) : EX (j136_16 x0 h) (fun z => (r.1, z)) (QC C r.2) := by
  have E := Ext.rfl' (C := C)
  unfold gj136_16 at hf
  unfold j136_16
  exact EX.uC E (gj136_17_ok H hf)
theorem g136_ok {h : xH} {C : xC} {x0 : Int32} {r : (Int32 × xC)} (H : WH h C) (hf : g136 x0 C = some r) : EX (fn136 x0 h) (fun z => (r.1, z)) (QC C r.2) := by
  have E := Ext.rfl' (C := C)
  unfold g136 at hf
  unfold fn136
  by_cases c_1 : x0 < 48
  · replace hf := x_pos c_1 hf
    refine EX.pos c_1 ?_
    exact EX.uC E (gj136_16_ok H hf)
  · replace hf := x_neg c_1 hf
    refine EX.neg c_1 ?_
    by_cases c_2 : 57 < x0
    · replace hf := x_pos c_2 hf
      refine EX.pos c_2 ?_
      exact EX.uC E (gj136_16_ok H hf)
    · replace hf := x_neg c_2 hf
      refine EX.neg c_2 ?_
      exact EX.uC E (gj136_17_ok H hf)
end
section
theorem gj137_29_ok {h : xH} {C : xC} {x0 : Int32} {s0 : Int32} {r : (Int32 × xC)} (H : WH h C) (hf : gj137_29 x0 s0 C = some r) : EX (j137_29 x0 s0 h) (fun z => (r.1, z)) (QC C r.2) := by
  have E := Ext.rfl' (C := C)
  unfold gj137_29 at hf
  unfold j137_29
  by_cases c_1 : s0 &&& 1 = s0
  · replace hf := x_pos c_1 hf
    refine EX.pos c_1 ?_
    obtain rfl := Option.some.inj hf
    exact ⟨_, rfl, H, E⟩
  · replace hf := x_neg c_1 hf
    cases hf
theorem gj137_28_ok {h : xH} {C : xC} {x0 : Int32} {r : (Int32 × xC)} (H : WH h C) (hf : gj137_28 x0 C = some r) : EX (j137_28 x0 h) (fun z => (r.1, z)) (QC C r.2) := by
  have E := Ext.rfl' (C := C)
  unfold gj137_28 at hf
  unfold j137_28
  exact EX.uC E (gj137_29_ok H hf)
theorem gj137_24_ok {h : xH} {C : xC} {x0 : Int32} {r : (Int32 × xC)} (H : WH h C) (hf : gj137_24 x0 C = some r) : EX (j137_24 x0 h) (fun z => (r.1, z)) (QC C r.2) := by
  have E := Ext.rfl' (C := C)
  unfold gj137_24 at hf
  unfold j137_24
  exact EX.uC E (gj137_29_ok H hf)
theorem gj137_12_ok {h : xH} {C : xC} {x0 : Int32} {r : (Int32 × xC)} (H : WH h C) (hf : gj137_12 x0 C = some r) : EX (j137_12 x0 h) (fun z => (r.1, z)) (QC C r.2) := by
  have E := Ext.rfl' (C := C)
  unfold gj137_12 at hf
  unfold j137_12
  by_cases c_1 : x0 < 97
  · replace hf := x_pos c_1 hf
    refine EX.pos c_1 ?_
    exact EX.uC E (gj137_28_ok H hf)
  · replace hf := x_neg c_1 hf
    refine EX.neg c_1 ?_
    by_cases c_2 : 122 < x0
    · replace hf := x_pos c_2 hf
      refine EX.pos c_2 ?_
      exact EX.uC E (gj137_28_ok H hf)
    · replace hf := x_neg c_2 hf
      refine EX.neg c_2 ?_
      exact EX.uC E (gj137_24_ok H hf)
theorem g137_ok {h : xH} {C : xC} {x0 : Int32} {r : (Int32 × xC)} (H : WH h C) (hf : g137 x0 C = some r) : EX (fn137 x0 h) (fun z => (r.1, z)) (QC C r.2) := by
  have E := Ext.rfl' (C := C)
  unfold g137 at hf
  unfold fn137
  by_cases c_1 : x0 < 65
  · replace hf := x_pos c_1 hf
    refine EX.pos c_1 ?_
    exact EX.uC E (gj137_12_ok H hf)
  · replace hf := x_neg c_1 hf
    refine EX.neg c_1 ?_
    by_cases c_2 : x0 ≤ 90
    · replace hf := x_pos c_2 hf
      refine EX.pos c_2 ?_
      exact EX.uC E (gj137_24_ok H hf)
    · replace hf := x_neg c_2 hf
      refine EX.neg c_2 ?_
      exact EX.uC E (gj137_12_ok H hf)
end
section
theorem gj107_68_ok {h : xH} {C : xC} {a0 : Nat} {x1 : Int32} {x2 : Int32} {x3 : Int32} {s0 : Int32} {r : (Int32 × xC)} (H : WH h C) (ta0 : tR C (some a0) 9) (hf : gj107_68 a0 x1 x2 x3 s0 C = some r) : EX (j107_68 (some a0) x1 x2 x3 s0 h) (fun z => (r.1, z)) (QC C r.2) := by
  have E := Ext.rfl' (C := C)
  unfold gj107_68 at hf
  unfold j107_68
  by_cases c_1 : s0 &&& 1 = s0
  · replace hf := x_pos c_1 hf
    refine EX.pos c_1 ?_
    obtain rfl := Option.some.inj hf
    exact ⟨_, rfl, H, E⟩
  · replace hf := x_neg c_1 hf
    cases hf
theorem gj107_52_ok {k23 : Nat → Int32 → Int32 → Int32 → xC → Option (Int32 × xC)} {f23 : Option Nat → Int32 → Int32 → Int32 → xH → Option (Int32 × xH)} (hk23 : ∀ {h : xH} {C : xC} {a0 : Nat} {x1 : Int32} {x2 : Int32} {x3 : Int32} {r : (Int32 × xC)}, WH h C → tR C (some a0) 9 → k23 a0 x1 x2 x3 C = some r → EX (f23 (some a0) x1 x2 x3 h) (fun z => (r.1, z)) (QC C r.2)) {h : xH} {C : xC} {a0 : Nat} {x1 : Int32} {x2 : Int32} {x3 : Int32} {r : (Int32 × xC)} (H : WH h C) (ta0 : tR C (some a0) 9) (hf : gj107_52 k23 a0 x1 x2 x3 C = some r) : EX (j107_52 f23 (some a0) x1 x2 x3 h) (fun z => (r.1, z)) (QC C r.2) := by
  have E := Ext.rfl' (C := C)
  unfold gj107_52 at hf
  unfold j107_52
  exact EX.uC E (hk23 H ta0 hf)
theorem gl107_23_ok : ∀ (n : Nat) {h : xH} {C : xC} {a0 : Nat} {x1 : Int32} {x2 : Int32} {x3 : Int32} {r : (Int32 × xC)} (H : WH h C) (ta0 : tR C (some a0) 9), gl107_23 n a0 x1 x2 x3 C = some r → EX (l107_23 n (some a0) x1 x2 x3 h) (fun z => (r.1, z)) (QC C r.2) := by
  intro n
  induction n with
  | zero => intros; rename_i hf; cases hf
  | succ n ih =>
    intro h C a0 x1 x2 x3 r H ta0 hf
    have E := Ext.rfl' (C := C)
    replace hf : ((if x2 ≤ x3 then (if x2 ≤ x1 then gj107_68 a0 x1 x2 x3 0 C else gj107_68 a0 x1 x2 x3 1 C) else (g96 a0 x3 C).bind fun r_4 => (g137 r_4.1 r_4.2).bind fun r_6 => (if r_6.1 = 0 then (g96 a0 x3 r_6.2).bind fun r_9 => (g136 r_9.1 r_9.2).bind fun r_11 => (if r_11.1 = 0 then some (0, r_11.2) else gj107_52 (gl107_23 n) a0 x1 x2 x3 r_11.2) else gj107_52 (gl107_23 n) a0 x1 x2 x3 r_6.2))) = some r := hf
    unfold l107_23
    by_cases c_1 : x2 ≤ x3
    · replace hf := x_pos c_1 hf
      refine EX.pos c_1 ?_
      by_cases c_2 : x2 ≤ x1
      · replace hf := x_pos c_2 hf
        refine EX.pos c_2 ?_
        exact EX.uC E (gj107_68_ok H ta0 hf)
      · replace hf := x_neg c_2 hf
        refine EX.neg c_2 ?_
        exact EX.uC E (gj107_68_ok H ta0 hf)
    · replace hf := x_neg c_1 hf
      refine EX.neg c_1 ?_
      have Hc_ := H.cv rfl ta0 (by decide)
      obtain ⟨r_4, er_4, hf⟩ := x_bind hf
      obtain ⟨h_3, eh_3, H, E_⟩ := g96_ok H rfl ta0 er_4
      refine EX.bd Hc_ ?_
      refine EX.bd eh_3 ?_
      dsimp only
      replace ta0 := ta0.up E_
      replace E := E.tr E_
      obtain ⟨r_6, er_6, hf⟩ := x_bind hf
      obtain ⟨h_5, eh_5, H, E_⟩ := g137_ok H er_6
      refine EX.bd eh_5 ?_
      dsimp only
      replace ta0 := ta0.up E_
      replace E := E.tr E_
      by_cases c_7 : r_6.1 = 0
      · replace hf := x_pos c_7 hf
        refine EX.pos c_7 ?_
        have Hc_ := H.cv rfl ta0 (by decide)
        obtain ⟨r_9, er_9, hf⟩ := x_bind hf
        obtain ⟨h_8, eh_8, H, E_⟩ := g96_ok H rfl ta0 er_9
        refine EX.bd Hc_ ?_
        refine EX.bd eh_8 ?_
        dsimp only
        replace ta0 := ta0.up E_
        replace E := E.tr E_
        obtain ⟨r_11, er_11, hf⟩ := x_bind hf
        obtain ⟨h_10, eh_10, H, E_⟩ := g136_ok H er_11
        refine EX.bd eh_10 ?_
        dsimp only
        replace ta0 := ta0.up E_
        replace E := E.tr E_
        by_cases c_12 : r_11.1 = 0
        · replace hf := x_pos c_12 hf
          refine EX.pos c_12 ?_
          obtain rfl := Option.some.inj hf
          exact ⟨_, rfl, H, E⟩
        · replace hf := x_neg c_12 hf
          refine EX.neg c_12 ?_
          exact EX.uC E (gj107_52_ok (k23 := (gl107_23 n)) (f23 := (l107_23 n)) ih H ta0 hf)
      · replace hf := x_neg c_7 hf
        refine EX.neg c_7 ?_
        exact EX.uC E (gj107_52_ok (k23 := (gl107_23 n)) (f23 := (l107_23 n)) ih H ta0 hf)
theorem gj107_19_ok {h : xH} {C : xC} {a0 : Nat} {x1 : Int32} {x2 : Int32} {r : (Int32 × xC)} (H : WH h C) (ta0 : tR C (some a0) 9) (hf : gj107_19 a0 x1 x2 C = some r) : EX (j107_19 (some a0) x1 x2 h) (fun z => (r.1, z)) (QC C r.2) := by
  have E := Ext.rfl' (C := C)
  unfold gj107_19 at hf
  unfold j107_19
  obtain rfl := Option.some.inj hf
  exact ⟨_, rfl, H, E⟩
theorem g107_ok {h : xH} {C : xC} {o0 : Option Nat} {a0 : Nat} {x1 : Int32} {x2 : Int32} {r : (Int32 × xC)} (H : WH h C) (e0 : o0 = some a0) (ta0 : tR C o0 9) (hf : g107 a0 x1 x2 C = some r) : EX (fn107 o0 x1 x2 h) (fun z => (r.1, z)) (QC C r.2) := by
  subst e0
  have E := Ext.rfl' (C := C)
  unfold g107 at hf
  unfold fn107
  by_cases c_1 : 10 < (x2 - x1)
  · replace hf := x_pos c_1 hf
    refine EX.pos c_1 ?_
    exact EX.uC E (gj107_19_ok H ta0 hf)
  · replace hf := x_neg c_1 hf
    refine EX.neg c_1 ?_
    have Hc_ := H.cv rfl ta0 (by decide)
    obtain ⟨r_3, er_3, hf⟩ := x_bind hf
    obtain ⟨h_2, eh_2, H, E_⟩ := g96_ok H rfl ta0 er_3
    refine EX.bd Hc_ ?_
    refine EX.bd eh_2 ?_
    dsimp only
    replace ta0 := ta0.up E_
    replace E := E.tr E_
    obtain ⟨r_5, er_5, hf⟩ := x_bind hf
    obtain ⟨h_4, eh_4, H, E_⟩ := g137_ok H er_5
    refine EX.bd eh_4 ?_
    dsimp only
    replace ta0 := ta0.up E_
    replace E := E.tr E_
    by_cases c_6 : r_5.1 = 0
    · replace hf := x_pos c_6 hf
      refine EX.pos c_6 ?_
      exact EX.uC E (gj107_19_ok H ta0 hf)
    · replace hf := x_neg c_6 hf
      refine EX.neg c_6 ?_
      exact EX.uC E (gl107_23_ok xFuel H ta0 hf)
end
