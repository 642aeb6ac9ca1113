section
theorem gj116_64_ok {h : xH} {C : xC} {a0 : Nat} {x1 : Int32} {o2 : Option Nat} {x3 : Int32} {r : (Int32 × xC)} (H : WH h C) (ta0 : tR C (some a0) 10) (to2 : tR C o2 2) (hf : gj116_64 a0 x1 o2 x3 C = some r) : EX (j116_64 (some a0) x1 o2 x3 h) (fun z => (r.1, z)) (QC C r.2) := by
  have E := Ext.rfl' (C := C)
  unfold gj116_64 at hf
  unfold j116_64
  refine EX.bd (H.gR rfl ta0 (by decide) (by decide) (by decide)) ?_
  have t_1 := H.tyR rfl ta0 (ci := 10) (k := 0) (by decide) (by decide) (by decide)
  obtain ⟨a_4, ea_4, hf⟩ := x_bind hf
  have Hc_ := H.cv ea_4 t_1 (by decide)
  obtain ⟨C_3, eC_3, hf⟩ := x_bind hf
  obtain ⟨h_2, eh_2, H, E_⟩ := g101_ok H ea_4 t_1 eC_3
  refine EX.bd Hc_ ?_
  refine EX.bd eh_2 ?_
  replace t_1 := t_1.up E_
  replace ta0 := ta0.up E_
  replace to2 := to2.up E_
  replace E := E.tr E_
  obtain rfl := Option.some.inj hf
  exact ⟨_, rfl, H, E⟩
theorem g116_ok {h : xH} {C : xC} {o0 : Option Nat} {a0 : Nat} {x1 : Int32} {r : (Int32 × xC)} (H : WH h C) (e0 : o0 = some a0) (ta0 : tR C o0 10) (hf : g116 a0 x1 C = some r) : EX (fn116 o0 x1 h) (fun z => (r.1, z)) (QC C r.2) := by
  subst e0
  have E := Ext.rfl' (C := C)
  unfold g116 at hf
  unfold fn116
  refine EX.bd (H.gR rfl ta0 (by decide) (by decide) (by decide)) ?_
  have t_1 := H.tyR rfl ta0 (ci := 10) (k := 1) (by decide) (by decide) (by decide)
  obtain ⟨a_4, ea_4, hf⟩ := x_bind hf
  have Hc_ := H.cv ea_4 t_1 (by decide)
  obtain ⟨r_3, er_3, hf⟩ := x_bind hf
  obtain ⟨h_2, eh_2, H, E_, t_5⟩ := g83_ok H ea_4 t_1 er_3
  refine EX.bd Hc_ ?_
  refine EX.bd eh_2 ?_
  dsimp only
  replace ta0 := ta0.up E_
  replace t_1 := t_1.up E_
  replace E := E.tr E_
  by_cases c_6 : r_3.1 = none
  · replace hf := x_pos c_6 hf
    refine EX.pos c_6 ?_
    exact EX.uC E (gj116_64_ok H ta0 t_5 hf)
  · replace hf := x_neg c_6 hf
    refine EX.neg c_6 ?_
    obtain ⟨a_9, ea_9, hf⟩ := x_bind hf
    have Hc_ := H.cv ea_9 t_5 (by decide)
    obtain ⟨r_8, er_8, hf⟩ := x_bind hf
    obtain ⟨h_7, eh_7, H, E_⟩ := g12_ok H ea_9 t_5 er_8
    refine EX.bd Hc_ ?_
    refine EX.bd eh_7 ?_
    dsimp only
    replace ta0 := ta0.up E_
    replace t_1 := t_1.up E_
    replace t_5 := t_5.up E_
    replace E := E.tr E_
    by_cases c_10 : r_8.1 = 0
    · replace hf := x_pos c_10 hf
      refine EX.pos c_10 ?_
      refine EX.bd (H.gR rfl ta0 (by decide) (by decide) (by decide)) ?_
      have t_11 := H.tyR rfl ta0 (ci := 10) (k := 0) (by decide) (by decide) (by decide)
      obtain ⟨a_14, ea_14, hf⟩ := x_bind hf
      have Hc_ := H.cv ea_14 t_11 (by decide)
      obtain ⟨r_13, er_13, hf⟩ := x_bind hf
      obtain ⟨h_12, eh_12, H, E_⟩ := g108_ok H ea_14 t_11 er_13
      refine EX.bd Hc_ ?_
      refine EX.bd eh_12 ?_
      dsimp only
      replace ta0 := ta0.up E_
      replace t_1 := t_1.up E_
      replace t_11 := t_11.up E_
      replace t_5 := t_5.up E_
      replace E := E.tr E_
      by_cases c_15 : r_13.1 = 0
      · replace hf := x_pos c_15 hf
        refine EX.pos c_15 ?_
        exact EX.uC E (gj116_64_ok H ta0 t_5 hf)
      · replace hf := x_neg c_15 hf
        refine EX.neg c_15 ?_
        refine EX.bd (H.gR rfl ta0 (by decide) (by decide) (by decide)) ?_
        have t_16 := H.tyR rfl ta0 (ci := 10) (k := 0) (by decide) (by decide) (by decide)
        refine EX.bd (H.gR rfl ta0 (by decide) (by decide) (by decide)) ?_
        obtain ⟨a_17, ea_17, hf⟩ := x_bind hf
        refine EX.bd (H.gI ea_17 t_16 (by decide) (by decide) rfl) ?_
        have Hc_ := H.cv ea_9 t_5 (by decide)
        obtain ⟨r_19, er_19, hf⟩ := x_bind hf
        obtain ⟨h_18, eh_18, H, E_⟩ := g16_ok H ea_9 t_5 t_16 er_19
        refine EX.bd Hc_ ?_
        refine EX.bd eh_18 ?_
        dsimp only
        replace t_16 := t_16.up E_
        replace ta0 := ta0.up E_
        replace t_1 := t_1.up E_
        replace t_11 := t_11.up E_
        replace t_5 := t_5.up E_
        replace E := E.tr E_
        by_cases c_20 : r_19.1 = 0
        · replace hf := x_pos c_20 hf
          refine EX.pos c_20 ?_
          refine EX.bd (H.gR rfl ta0 (by decide) (by decide) (by decide)) ?_
          have t_21 := H.tyR rfl ta0 (ci := 10) (k := 0) (by decide) (by decide) (by decide)
          have Hc_ := H.cv ea_9 t_5 (by decide)
          obtain ⟨r_23, er_23, hf⟩ := x_bind hf
          obtain ⟨h_22, eh_22, H, E_⟩ := g17_ok H ea_9 t_5 t_21 er_23
          refine EX.bd Hc_ ?_
          refine EX.bd eh_22 ?_
          dsimp only
          replace t_16 := t_16.up E_
          replace ta0 := ta0.up E_
          replace t_1 := t_1.up E_
          replace t_11 := t_11.up E_
          replace t_5 := t_5.up E_
          replace E := E.tr E_
          exact EX.uC E (gj116_64_ok H ta0 t_5 hf)
        · replace hf := x_neg c_20 hf
          refine EX.neg c_20 ?_
          exact EX.uC E (gj116_64_ok H ta0 t_5 hf)
    · replace hf := x_neg c_10 hf
      refine EX.neg c_10 ?_
      exact EX.uC E (gj116_64_ok H ta0 t_5 hf)
end
section
theorem gj118_27_ok {h : xH} {C : xC} {a0 : Nat} {o1 : Option Nat} {o2 : Option Nat} {s0 : Nat} {s1 : Option Nat} {r : (Int32 × xC)} (H : WH h C) (ta0 : tR C (some a0) 10) (to1 : tR C o1 2) (to2 : tR C o2 1) (ts0 : tR C (some s0) 10) (ts1 : tR C s1 1) (hf : gj118_27 a0 o1 o2 s0 s1 C = some r) : EX (j118_27 (some a0) o1 o2 (some s0) s1 h) (fun z => (r.1, z)) (QC C r.2) := by
  have E := Ext.rfl' (C := C)
  unfold gj118_27 at hf
  unfold j118_27
  obtain ⟨C_1, eC_1, hf⟩ := x_bind hf
  obtain ⟨h_2, eh_2, H, E_⟩ := H.pR (ci := 10) (k := 5) (ty := (.object "DocFormat$Comment")) rfl ts0 ts1 (by decide) (by decide) (by decide) rfl rfl eC_1
  refine EX.bd eh_2 ?_
  replace to1 := to1.up E_
  replace ta0 := ta0.up E_
  replace ts0 := ts0.up E_
  replace to2 := to2.up E_
  replace E := E.tr E_
  obtain ⟨a_5, ea_5, hf⟩ := x_bind hf
  obtain ⟨C_3, eC_3, hf⟩ := x_bind hf
  obtain ⟨h_4, eh_4, H, E_⟩ := H.pR (ci := 2) (k := 7) (ty := (.object "DocFormat$Comment")) ea_5 to1 to2 (by decide) (by decide) (by decide) rfl rfl eC_3
  refine EX.bd eh_4 ?_
  replace to1 := to1.up E_
  replace ta0 := ta0.up E_
  replace ts0 := ts0.up E_
  replace to2 := to2.up E_
  replace E := E.tr E_
  obtain ⟨C_6, eC_6, hf⟩ := x_bind hf
  obtain ⟨h_7, eh_7, H, E_⟩ := H.pI ea_5 to1 (by decide) (by decide) rfl (show xfit .boolean (.int 1) = true by decide) eC_6
  refine EX.bd eh_7 ?_
  replace to1 := to1.up E_
  replace ta0 := ta0.up E_
  replace ts0 := ts0.up E_
  replace to2 := to2.up E_
  replace E := E.tr E_
  obtain ⟨a_8, ea_8, hf⟩ := x_bind hf
  refine EX.bd (H.gI ea_8 to2 (by decide) (by decide) rfl) ?_
  obtain rfl := Option.some.inj hf
  exact ⟨_, rfl, H, E⟩
theorem g118_ok {h : xH} {C : xC} {o0 : Option Nat} {a0 : Nat} {o1 : Option Nat} {r : (Int32 × xC)} (H : WH h C) (e0 : o0 = some a0) (ta0 : tR C o0 10) (to1 : tR C o1 2) (hf : g118 a0 o1 C = some r) : EX (fn118 o0 o1 h) (fun z => (r.1, z)) (QC C r.2) := by
  subst e0
  have E := Ext.rfl' (C := C)
  unfold g118 at hf
  unfold fn118
  refine EX.bd (H.gR rfl ta0 (by decide) (by decide) (by decide)) ?_
  have t_1 := H.tyR rfl ta0 (ci := 10) (k := 5) (by decide) (by decide) (by decide)
  obtain ⟨a_2, ea_2, hf⟩ := x_bind hf
  refine EX.bd (H.gR ea_2 to1 (by decide) (by decide) (by decide)) ?_
  have t_3 := H.tyR ea_2 to1 (ci := 2) (k := 7) (by decide) (by decide) (by decide)
  by_cases c_4 : (cR C a_2 7) = none
  · replace hf := x_pos c_4 hf
    refine EX.pos c_4 ?_
    obtain ⟨C_5, eC_5, hf⟩ := x_bind hf
    obtain ⟨h_6, eh_6, N_, t_7, H, E_⟩ := H.new (ci := 1) (fs := [.null, .null, .null, .int 0, .int 0, .null]) (by decide) rfl eC_5
    refine EX.bd eh_6 ?_
    rw [N_]
    replace to1 := to1.up E_
    replace ta0 := ta0.up E_
    replace t_1 := t_1.up E_
    replace E := E.tr E_
    have Hc_ := H.cv rfl t_7 (by decide)
    obtain ⟨C_9, eC_9, hf⟩ := x_bind hf
    obtain ⟨h_8, eh_8, H, E_⟩ := g3_ok H rfl t_7 eC_9
    refine EX.bd Hc_ ?_
    refine EX.bd eh_8 ?_
    replace to1 := to1.up E_
    replace t_7 := t_7.up E_
    replace ta0 := ta0.up E_
    replace t_1 := t_1.up E_
    replace E := E.tr E_
    exact EX.uC E (gj118_27_ok H ta0 to1 t_1 ta0 t_7 hf)
  · replace hf := x_neg c_4 hf
    refine EX.neg c_4 ?_
    refine EX.bd (H.gR ea_2 to1 (by decide) (by decide) (by decide)) ?_
    exact EX.uC E (gj118_27_ok H ta0 to1 t_1 ta0 t_3 hf)
end
section
theorem gj117_82_ok {h : xH} {C : xC} {a0 : Nat} {x1 : Int32} {o2 : Option Nat} {s0 : Int32} {r : (Int32 × xC)} (H : WH h C) (ta0 : tR C (some a0) 10) (to2 : tR C o2 2) (hf : gj117_82 a0 x1 o2 s0 C = some r) : EX (j117_82 (some a0) x1 o2 s0 h) (fun z => (r.1, z)) (QC C r.2) := by
  have E := Ext.rfl' (C := C)
  unfold gj117_82 at hf
  unfold j117_82
  obtain rfl := Option.some.inj hf
  exact ⟨_, rfl, H, E⟩
theorem g117_ok {h : xH} {C : xC} {o0 : Option Nat} {a0 : Nat} {x1 : Int32} {r : (Int32 × xC)} (H : WH h C) (e0 : o0 = some a0) (ta0 : tR C o0 10) (hf : g117 a0 x1 C = some r) : EX (fn117 o0 x1 h) (fun z => (r.1, z)) (QC C r.2) := by
  subst e0
  have E := Ext.rfl' (C := C)
  unfold g117 at hf
  unfold fn117
  refine EX.bd (H.gR rfl ta0 (by decide) (by decide) (by decide)) ?_
  have t_1 := H.tyR rfl ta0 (ci := 10) (k := 1) (by decide) (by decide) (by decide)
  obtain ⟨a_4, ea_4, hf⟩ := x_bind hf
  have Hc_ := H.cv ea_4 t_1 (by decide)
  obtain ⟨r_3, er_3, hf⟩ := x_bind hf
  obtain ⟨h_2, eh_2, H, E_, t_5⟩ := g83_ok H ea_4 t_1 er_3
  refine EX.bd Hc_ ?_
  refine EX.bd eh_2 ?_
  dsimp only
  replace ta0 := ta0.up E_
  replace t_1 := t_1.up E_
  replace E := E.tr E_
  by_cases c_6 : r_3.1 = none
  · replace hf := x_pos c_6 hf
    refine EX.pos c_6 ?_
    refine EX.bd (H.gR rfl ta0 (by decide) (by decide) (by decide)) ?_
    have t_7 := H.tyR rfl ta0 (ci := 10) (k := 0) (by decide) (by decide) (by decide)
    obtain ⟨a_10, ea_10, hf⟩ := x_bind hf
    have Hc_ := H.cv ea_10 t_7 (by decide)
    obtain ⟨C_9, eC_9, hf⟩ := x_bind hf
    obtain ⟨h_8, eh_8, H, E_⟩ := g101_ok H ea_10 t_7 eC_9
    refine EX.bd Hc_ ?_
    refine EX.bd eh_8 ?_
    replace t_7 := t_7.up E_
    replace ta0 := ta0.up E_
    replace t_1 := t_1.up E_
    replace t_5 := t_5.up E_
    replace E := E.tr E_
    obtain rfl := Option.some.inj hf
    exact ⟨_, rfl, H, E⟩
  · replace hf := x_neg c_6 hf
    refine EX.neg c_6 ?_
    refine EX.bd (H.gR rfl ta0 (by decide) (by decide) (by decide)) ?_
    have t_11 := H.tyR rfl ta0 (ci := 10) (k := 5) (by decide) (by decide) (by decide)
    refine EX.bd (H.gR rfl ta0 (by decide) (by decide) (by decide)) ?_
    have t_12 := H.tyR rfl ta0 (ci := 10) (k := 0) (by decide) (by decide) (by decide)
    obtain ⟨a_15, ea_15, hf⟩ := x_bind hf
    have Hc_ := H.cv ea_15 t_11 (by decide)
    obtain ⟨C_14, eC_14, hf⟩ := x_bind hf
    obtain ⟨h_13, eh_13, H, E_⟩ := g4_ok H ea_15 t_11 t_12 t_5 eC_14
    refine EX.bd Hc_ ?_
    refine EX.bd eh_13 ?_
    replace ta0 := ta0.up E_
    replace t_1 := t_1.up E_
    replace t_11 := t_11.up E_
    replace t_5 := t_5.up E_
    replace E := E.tr E_
    refine EX.bd (H.gR rfl ta0 (by decide) (by decide) (by decide)) ?_
    have t_16 := H.tyR rfl ta0 (ci := 10) (k := 0) (by decide) (by decide) (by decide)
    obtain ⟨a_19, ea_19, hf⟩ := x_bind hf
    have Hc_ := H.cv ea_19 t_16 (by decide)
    obtain ⟨C_18, eC_18, hf⟩ := x_bind hf
    obtain ⟨h_17, eh_17, H, E_⟩ := g101_ok H ea_19 t_16 eC_18
    refine EX.bd Hc_ ?_
    refine EX.bd eh_17 ?_
    replace t_16 := t_16.up E_
    replace ta0 := ta0.up E_
    replace t_1 := t_1.up E_
    replace t_5 := t_5.up E_
    replace t_11 := t_11.up E_
    replace E := E.tr E_
    refine EX.bd (H.gR rfl ta0 (by decide) (by decide) (by decide)) ?_
    have t_20 := H.tyR rfl ta0 (ci := 10) (k := 2) (by decide) (by decide) (by decide)
    refine EX.bd (H.gR rfl ta0 (by decide) (by decide) (by decide)) ?_
    have t_21 := H.tyR rfl ta0 (ci := 10) (k := 5) (by decide) (by decide) (by decide)
    obtain ⟨a_24, ea_24, hf⟩ := x_bind hf
    have Hc_ := H.cv ea_24 t_20 (by decide)
    obtain ⟨C_23, eC_23, hf⟩ := x_bind hf
    obtain ⟨h_22, eh_22, H, E_⟩ := g61_ok H ea_24 t_20 t_21 eC_23
    refine EX.bd Hc_ ?_
    refine EX.bd eh_22 ?_
    replace t_16 := t_16.up E_
    replace ta0 := ta0.up E_
    replace t_1 := t_1.up E_
    replace t_20 := t_20.up E_
    replace t_5 := t_5.up E_
    replace t_11 := t_11.up E_
    replace E := E.tr E_
    refine EX.bd (H.gR rfl ta0 (by decide) (by decide) (by decide)) ?_
    have t_25 := H.tyR rfl ta0 (ci := 10) (k := 2) (by decide) (by decide) (by decide)
    obtain ⟨a_26, ea_26, hf⟩ := x_bind hf
    refine EX.bd (H.gI ea_26 t_25 (by decide) (by decide) rfl) ?_
    by_cases c_27 : (cI C_23 a_26 5) = 0
    · replace hf := x_pos c_27 hf
      refine EX.pos c_27 ?_
      have Hc_ := H.cv rfl ta0 (by decide)
      obtain ⟨r_29, er_29, hf⟩ := x_bind hf
      obtain ⟨h_28, eh_28, H, E_⟩ := g118_ok H rfl ta0 t_5 er_29
      refine EX.bd Hc_ ?_
      refine EX.bd eh_28 ?_
      dsimp only
      replace t_25 := t_25.up E_
      replace t_16 := t_16.up E_
      replace ta0 := ta0.up E_
      replace t_1 := t_1.up E_
      replace t_20 := t_20.up E_
      replace t_5 := t_5.up E_
      replace t_11 := t_11.up E_
      replace E := E.tr E_
      exact EX.uC E (gj117_82_ok H ta0 t_5 hf)
    · replace hf := x_neg c_27 hf
      refine EX.neg c_27 ?_
      refine EX.bd (H.gR rfl ta0 (by decide) (by decide) (by decide)) ?_
      refine EX.bd (H.gI ea_26 t_25 (by decide) (by decide) rfl) ?_
      exact EX.uC E (gj117_82_ok H ta0 t_5 hf)
end
section
theorem g119_ok {h : xH} {C : xC} {o0 : Option Nat} {a0 : Nat} {r : (Int32 × xC)} (H : WH h C) (e0 : o0 = some a0) (ta0 : tR C o0 10) (hf : g119 a0 C = some r) : EX (fn119 o0 h) (fun z => (r.1, z)) (QC C r.2) := by
  subst e0
  have E := Ext.rfl' (C := C)
  unfold g119 at hf
  unfold fn119
  refine EX.bd (H.gR rfl ta0 (by decide) (by decide) (by decide)) ?_
  have t_1 := H.tyR rfl ta0 (ci := 10) (k := 2) (by decide) (by decide) (by decide)
  obtain ⟨a_2, ea_2, hf⟩ := x_bind hf
  refine EX.bd (H.gI ea_2 t_1 (by decide) (by decide) rfl) ?_
  obtain rfl := Option.some.inj hf
  exact ⟨_, rfl, H, E⟩
end
section
theorem g120_ok {h : xH} {C : xC} {o0 : Option Nat} {a0 : Nat} {x1 : Int32} {r : (Int32 × xC)} (H : WH h C) (e0 : o0 = some a0) (ta0 : tR C o0 10) (hf : g120 a0 x1 C = some r) : EX (fn120 o0 x1 h) (fun z => (r.1, z)) (QC C r.2) := by
  subst e0
  have E := Ext.rfl' (C := C)
  unfold g120 at hf
  unfold fn120
  refine EX.bd (H.gR rfl ta0 (by decide) (by decide) (by decide)) ?_
  have t_1 := H.tyR rfl ta0 (ci := 10) (k := 1) (by decide) (by decide) (by decide)
  obtain ⟨a_4, ea_4, hf⟩ := x_bind hf
  have Hc_ := H.cv ea_4 t_1 (by decide)
  obtain ⟨r_3, er_3, hf⟩ := x_bind hf
  obtain ⟨h_2, eh_2, H, E_, t_5⟩ := g83_ok H ea_4 t_1 er_3
  refine EX.bd Hc_ ?_
  refine EX.bd eh_2 ?_
  dsimp only
  replace ta0 := ta0.up E_
  replace t_1 := t_1.up E_
  replace E := E.tr E_
  by_cases c_6 : r_3.1 = none
  · replace hf := x_pos c_6 hf
    refine EX.pos c_6 ?_
    obtain rfl := Option.some.inj hf
    exact ⟨_, rfl, H, E⟩
  · replace hf := x_neg c_6 hf
    refine EX.neg c_6 ?_
    obtain ⟨a_9, ea_9, hf⟩ := x_bind hf
    have Hc_ := H.cv ea_9 t_5 (by decide)
    obtain ⟨r_8, er_8, hf⟩ := x_bind hf
    obtain ⟨h_7, eh_7, H, E_, t_10⟩ := g14_ok H ea_9 t_5 er_8
    refine EX.bd Hc_ ?_
    refine EX.bd eh_7 ?_
    dsimp only
    replace ta0 := ta0.up E_
    replace t_1 := t_1.up E_
    replace t_5 := t_5.up E_
    replace E := E.tr E_
    by_cases c_11 : r_8.1 = none
    · replace hf := x_pos c_11 hf
      refine EX.pos c_11 ?_
      obtain rfl := Option.some.inj hf
      exact ⟨_, rfl, H, E⟩
    · replace hf := x_neg c_11 hf
      refine EX.neg c_11 ?_
      obtain ⟨C_12, eC_12, hf⟩ := x_bind hf
      obtain ⟨h_13, eh_13, H, E_⟩ := H.pI ea_9 t_5 (by decide) (by decide) rfl (show xfit .boolean (.int 0) = true by decide) eC_12
      refine EX.bd eh_13 ?_
      replace ta0 := ta0.up E_
      replace t_1 := t_1.up E_
      replace t_10 := t_10.up E_
      replace t_5 := t_5.up E_
      replace E := E.tr E_
      obtain ⟨a_14, ea_14, hf⟩ := x_bind hf
      refine EX.bd (H.gI ea_14 t_10 (by decide) (by decide) rfl) ?_
      obtain rfl := Option.some.inj hf
      exact ⟨_, rfl, H, E⟩
end
section
theorem gj134_12_ok {h : xH} {C : xC} {o0 : Option Nat} {s0 : Int32} {r : (Int32 × xC)} (H : WH h C) (to0 : tR C o0 2) (hf : gj134_12 o0 s0 C = some r) : EX (j134_12 o0 s0 h) (fun z => (r.1, z)) (QC C r.2) := by
  have E := Ext.rfl' (C := C)
  unfold gj134_12 at hf
  unfold j134_12
  obtain rfl := Option.some.inj hf
  exact ⟨_, rfl, H, E⟩
theorem g134_ok {h : xH} {C : xC} {o0 : Option Nat} {r : (Int32 × xC)} (H : WH h C) (to0 : tR C o0 2) (hf : g134 o0 C = some r) : EX (fn134 o0 h) (fun z => (r.1, z)) (QC C r.2) := by
  have E := Ext.rfl' (C := C)
  unfold g134 at hf
  unfold fn134
  by_cases c_1 : o0 = none
  · replace hf := x_pos c_1 hf
    refine EX.pos c_1 ?_
    exact EX.uC E (gj134_12_ok H to0 hf)
  · replace hf := x_neg c_1 hf
    refine EX.neg c_1 ?_
    obtain ⟨a_2, ea_2, hf⟩ := x_bind hf
    refine EX.bd (H.gI ea_2 to0 (by decide) (by decide) rfl) ?_
    exact EX.uC E (gj134_12_ok H to0 hf)
end
section
theorem gj121_155_ok {h : xH} {C : xC} {a0 : Nat} {x1 : Int32} {x2 : Int32} {o3 : Option Nat} {o4 : Option Nat} {s0 : Int32} {r : (Int32 × xC)} (H : WH h C) (ta0 : tR C (some a0) 10) (to3 : tR C o3 2) (to4 : tR C o4 1) (hf : gj121_155 a0 x1 x2 o3 o4 s0 C = some r) : EX (j121_155 (some a0) x1 x2 o3 o4 s0 h) (fun z => (r.1, z)) (QC C r.2) := by
  have E := Ext.rfl' (C := C)
  unfold gj121_155 at hf
  unfold j121_155
  obtain rfl := Option.some.inj hf
  exact ⟨_, rfl, H, E⟩
theorem gj121_140_ok {h : xH} {C : xC} {a0 : Nat} {x1 : Int32} {x2 : Int32} {o3 : Option Nat} {o4 : Option Nat} {s0 : Int32} {r : (Int32 × xC)} (H : WH h C) (ta0 : tR C (some a0) 10) (to3 : tR C o3 2) (to4 : tR C o4 1) (hf : gj121_140 a0 x1 x2 o3 o4 s0 C = some r) : EX (j121_140 (some a0) x1 x2 o3 o4 s0 h) (fun z => (r.1, z)) (QC C r.2) := by
  have E := Ext.rfl' (C := C)
  unfold gj121_140 at hf
  unfold j121_140
  obtain rfl := Option.some.inj hf
  exact ⟨_, rfl, H, E⟩
theorem gj121_101_ok {h : xH} {C : xC} {a0 : Nat} {x1 : Int32} {x2 : Int32} {o3 : Option Nat} {o4 : Option Nat} {s0 : Int32} {r : (Int32 × xC)} (H : WH h C) (ta0 : tR C (some a0) 10) (to3 : tR C o3 2) (to4 : tR C o4 1) (hf : gj121_101 a0 x1 x2 o3 o4 s0 C = some r) : EX (j121_101 (some a0) x1 x2 o3 o4 s0 h) (fun z => (r.1, z)) (QC C r.2) := by
  have E := Ext.rfl' (C := C)
  unfold gj121_101 at hf
  unfold j121_101
  obtain rfl := Option.some.inj hf
  exact ⟨_, rfl, H, E⟩
theorem g121_ok {h : xH} {C : xC} {o0 : Option Nat} {a0 : Nat} {x1 : Int32} {x2 : Int32} {r : (Int32 × xC)} (H : WH h C) (e0 : o0 = some a0) (ta0 : tR C o0 10) (hf : g121 a0 x1 x2 C = some r) : EX (fn121 o0 x1 x2 h) (fun z => (r.1, z)) (QC C r.2) := by
  subst e0
  have E := Ext.rfl' (C := C)
  unfold g121 at hf
  unfold fn121
  refine EX.bd (H.gR rfl ta0 (by decide) (by decide) (by decide)) ?_
  have t_1 := H.tyR rfl ta0 (ci := 10) (k := 1) (by decide) (by decide) (by decide)
  obtain ⟨a_4, ea_4, hf⟩ := x_bind hf
  have Hc_ := H.cv ea_4 t_1 (by decide)
  obtain ⟨r_3, er_3, hf⟩ := x_bind hf
  obtain ⟨h_2, eh_2, H, E_, t_5⟩ := g83_ok H ea_4 t_1 er_3
  refine EX.bd Hc_ ?_
  refine EX.bd eh_2 ?_
  dsimp only
  replace ta0 := ta0.up E_
  replace t_1 := t_1.up E_
  replace E := E.tr E_
  by_cases c_6 : r_3.1 = none
  · replace hf := x_pos c_6 hf
    refine EX.pos c_6 ?_
    obtain rfl := Option.some.inj hf
    exact ⟨_, rfl, H, E⟩
  · replace hf := x_neg c_6 hf
    refine EX.neg c_6 ?_
    obtain ⟨a_9, ea_9, hf⟩ := x_bind hf
    have Hc_ := H.cv ea_9 t_5 (by decide)
    obtain ⟨r_8, er_8, hf⟩ := x_bind hf
    obtain ⟨h_7, eh_7, H, E_, t_10⟩ := g14_ok H ea_9 t_5 er_8
    refine EX.bd Hc_ ?_
    refine EX.bd eh_7 ?_
    dsimp only
    replace ta0 := ta0.up E_
    replace t_1 := t_1.up E_
    replace t_5 := t_5.up E_
    replace E := E.tr E_
    by_cases c_11 : x2 = 0
    · replace hf := x_pos c_11 hf
      refine EX.pos c_11 ?_
      refine EX.bd (H.gR ea_9 t_5 (by decide) (by decide) (by decide)) ?_
      have t_12 := H.tyR ea_9 t_5 (ci := 2) (k := 2) (by decide) (by decide) (by decide)
      obtain ⟨r_14, er_14, hf⟩ := x_bind hf
      obtain ⟨h_13, eh_13, H, E_⟩ := g134_ok H t_12 er_14
      refine EX.bd eh_13 ?_
      dsimp only
      replace ta0 := ta0.up E_
      replace t_1 := t_1.up E_
      replace t_10 := t_10.up E_
      replace t_5 := t_5.up E_
      replace E := E.tr E_
      obtain rfl := Option.some.inj hf
      exact ⟨_, rfl, H, E⟩
    · replace hf := x_neg c_11 hf
      refine EX.neg c_11 ?_
      by_cases c_15 : x2 = 1
      · replace hf := x_pos c_15 hf
        refine EX.pos c_15 ?_
        refine EX.bd (H.gR ea_9 t_5 (by decide) (by decide) (by decide)) ?_
        have t_16 := H.tyR ea_9 t_5 (ci := 2) (k := 3) (by decide) (by decide) (by decide)
        obtain ⟨r_18, er_18, hf⟩ := x_bind hf
        obtain ⟨h_17, eh_17, H, E_⟩ := g134_ok H t_16 er_18
        refine EX.bd eh_17 ?_
        dsimp only
        replace ta0 := ta0.up E_
        replace t_1 := t_1.up E_
        replace t_10 := t_10.up E_
        replace t_5 := t_5.up E_
        replace E := E.tr E_
        obtain rfl := Option.some.inj hf
        exact ⟨_, rfl, H, E⟩
      · replace hf := x_neg c_15 hf
        refine EX.neg c_15 ?_
        by_cases c_19 : x2 = 2
        · replace hf := x_pos c_19 hf
          refine EX.pos c_19 ?_
          refine EX.bd (H.gI ea_9 t_5 (by decide) (by decide) rfl) ?_
          obtain rfl := Option.some.inj hf
          exact ⟨_, rfl, H, E⟩
        · replace hf := x_neg c_19 hf
          refine EX.neg c_19 ?_
          by_cases c_20 : x2 = 3
          · replace hf := x_pos c_20 hf
            refine EX.pos c_20 ?_
            refine EX.bd (H.gI ea_9 t_5 (by decide) (by decide) rfl) ?_
            by_cases c_21 : (cI r_8.2 a_9 4) = 0
            · replace hf := x_pos c_21 hf
              refine EX.pos c_21 ?_
              exact EX.uC E (gj121_101_ok H ta0 t_5 t_10 hf)
            · replace hf := x_neg c_21 hf
              refine EX.neg c_21 ?_
              exact EX.uC E (gj121_101_ok H ta0 t_5 t_10 hf)
          · replace hf := x_neg c_20 hf
            refine EX.neg c_20 ?_
            by_cases c_22 : x2 = 4
            · replace hf := x_pos c_22 hf
              refine EX.pos c_22 ?_
              refine EX.bd (H.gR rfl ta0 (by decide) (by decide) (by decide)) ?_
              have t_23 := H.tyR rfl ta0 (ci := 10) (k := 1) (by decide) (by decide) (by decide)
              obtain ⟨a_26, ea_26, hf⟩ := x_bind hf
              have Hc_ := H.cv ea_26 t_23 (by decide)
              obtain ⟨r_25, er_25, hf⟩ := x_bind hf
              obtain ⟨h_24, eh_24, H, E_, t_27⟩ := g90_ok H ea_26 t_23 t_5 er_25
              refine EX.bd Hc_ ?_
              refine EX.bd eh_24 ?_
              dsimp only
              replace t_10 := t_10.up E_
              replace t_23 := t_23.up E_
              replace ta0 := ta0.up E_
              replace t_1 := t_1.up E_
              replace t_5 := t_5.up E_
              replace E := E.tr E_
              obtain ⟨r_29, er_29, hf⟩ := x_bind hf
              obtain ⟨h_28, eh_28, H, E_⟩ := g134_ok H t_27 er_29
              refine EX.bd eh_28 ?_
              dsimp only
              replace t_10 := t_10.up E_
              replace t_23 := t_23.up E_
              replace ta0 := ta0.up E_
              replace t_1 := t_1.up E_
              replace t_5 := t_5.up E_
              replace E := E.tr E_
              obtain rfl := Option.some.inj hf
              exact ⟨_, rfl, H, E⟩
            · replace hf := x_neg c_22 hf
              refine EX.neg c_22 ?_
              by_cases c_30 : x2 = 5
              · replace hf := x_pos c_30 hf
                refine EX.pos c_30 ?_
                refine EX.bd (H.gR rfl ta0 (by decide) (by decide) (by decide)) ?_
                have t_31 := H.tyR rfl ta0 (ci := 10) (k := 1) (by decide) (by decide) (by decide)
                obtain ⟨a_34, ea_34, hf⟩ := x_bind hf
                have Hc_ := H.cv ea_34 t_31 (by decide)
                obtain ⟨r_33, er_33, hf⟩ := x_bind hf
                obtain ⟨h_32, eh_32, H, E_, t_35⟩ := g91_ok H ea_34 t_31 t_5 er_33
                refine EX.bd Hc_ ?_
                refine EX.bd eh_32 ?_
                dsimp only
                replace t_10 := t_10.up E_
                replace t_31 := t_31.up E_
                replace ta0 := ta0.up E_
                replace t_1 := t_1.up E_
                replace t_5 := t_5.up E_
                replace E := E.tr E_
                obtain ⟨r_37, er_37, hf⟩ := x_bind hf
                obtain ⟨h_36, eh_36, H, E_⟩ := g134_ok H t_35 er_37
                refine EX.bd eh_36 ?_
                dsimp only
                replace t_10 := t_10.up E_
                replace t_31 := t_31.up E_
                replace ta0 := ta0.up E_
                replace t_1 := t_1.up E_
                replace t_5 := t_5.up E_
                replace E := E.tr E_
                obtain rfl := Option.some.inj hf
                exact ⟨_, rfl, H, E⟩
              · replace hf := x_neg c_30 hf
                refine EX.neg c_30 ?_
                by_cases c_38 : x2 = 6
                · replace hf := x_pos c_38 hf
                  refine EX.pos c_38 ?_
                  by_cases c_39 : r_8.1 = none
                  · replace hf := x_pos c_39 hf
                    refine EX.pos c_39 ?_
                    exact EX.uC E (gj121_140_ok H ta0 t_5 t_10 hf)
                  · replace hf := x_neg c_39 hf
                    refine EX.neg c_39 ?_
                    obtain ⟨a_40, ea_40, hf⟩ := x_bind hf
                    refine EX.bd (H.gI ea_40 t_10 (by decide) (by decide) rfl) ?_
                    exact EX.uC E (gj121_140_ok H ta0 t_5 t_10 hf)
                · replace hf := x_neg c_38 hf
                  refine EX.neg c_38 ?_
                  by_cases c_41 : x2 = 7
                  · replace hf := x_pos c_41 hf
                    refine EX.pos c_41 ?_
                    by_cases c_42 : r_8.1 = none
                    · replace hf := x_pos c_42 hf
                      refine EX.pos c_42 ?_
                      exact EX.uC E (gj121_155_ok H ta0 t_5 t_10 hf)
                    · replace hf := x_neg c_42 hf
                      refine EX.neg c_42 ?_
                      obtain ⟨a_43, ea_43, hf⟩ := x_bind hf
                      refine EX.bd (H.gI ea_43 t_10 (by decide) (by decide) rfl) ?_
                      exact EX.uC E (gj121_155_ok H ta0 t_5 t_10 hf)
                  · replace hf := x_neg c_41 hf
                    refine EX.neg c_41 ?_
                    obtain rfl := Option.some.inj hf
                    exact ⟨_, rfl, H, E⟩
end
section
theorem gj133_21_ok {h : xH} {C : xC} {a0 : Nat} {x1 : Int32} {o2 : Option Nat} {s0 : Option Nat} {r : (Option Nat × xC)} (H : WH h C) (ta0 : tR C (some a0) 10) (to2 : tR C o2 2) (ts0 : tR C s0 1) (hf : gj133_21 a0 x1 o2 s0 C = some r) : EX (j133_21 (some a0) x1 o2 s0 h) (fun z => (r.1, z)) (QR 1 C r) := by
  have E := Ext.rfl' (C := C)
  unfold gj133_21 at hf
  unfold j133_21
  obtain rfl := Option.some.inj hf
  exact ⟨_, rfl, H, E, ts0⟩
theorem g133_ok {h : xH} {C : xC} {o0 : Option Nat} {a0 : Nat} {x1 : Int32} {r : (Option Nat × xC)} (H : WH h C) (e0 : o0 = some a0) (ta0 : tR C o0 10) (hf : g133 a0 x1 C = some r) : EX (fn133 o0 x1 h) (fun z => (r.1, z)) (QR 1 C r) := by
  subst e0
  have E := Ext.rfl' (C := C)
  unfold g133 at hf
  unfold fn133
  refine EX.bd (H.gR rfl ta0 (by decide) (by decide) (by decide)) ?_
  have t_1 := H.tyR rfl ta0 (ci := 10) (k := 1) (by decide) (by decide) (by decide)
  obtain ⟨a_4, ea_4, hf⟩ := x_bind hf
  have Hc_ := H.cv ea_4 t_1 (by decide)
  obtain ⟨r_3, er_3, hf⟩ := x_bind hf
  obtain ⟨h_2, eh_2, H, E_, t_5⟩ := g83_ok H ea_4 t_1 er_3
  refine EX.bd Hc_ ?_
  refine EX.bd eh_2 ?_
  dsimp only
  replace ta0 := ta0.up E_
  replace t_1 := t_1.up E_
  replace E := E.tr E_
  by_cases c_6 : r_3.1 = none
  · replace hf := x_pos c_6 hf
    refine EX.pos c_6 ?_
    exact EX.uR E (gj133_21_ok H ta0 t_5 tR_none hf)
  · replace hf := x_neg c_6 hf
    refine EX.neg c_6 ?_
    obtain ⟨a_9, ea_9, hf⟩ := x_bind hf
    have Hc_ := H.cv ea_9 t_5 (by decide)
    obtain ⟨r_8, er_8, hf⟩ := x_bind hf
    obtain ⟨h_7, eh_7, H, E_, t_10⟩ := g14_ok H ea_9 t_5 er_8
    refine EX.bd Hc_ ?_
    refine EX.bd eh_7 ?_
    dsimp only
    replace ta0 := ta0.up E_
    replace t_1 := t_1.up E_
    replace t_5 := t_5.up E_
    replace E := E.tr E_
    exact EX.uR E (gj133_21_ok H ta0 t_5 t_10 hf)
end
section
theorem gj122_22_ok {h : xH} {C : xC} {a0 : Nat} {x1 : Int32} {x2 : Int32} {x3 : Int32} {o4 : Option Nat} {s0 : Option Nat} {r : (Int32 × xC)} (H : WH h C) (ta0 : tR C (some a0) 10) (to4 : tR C o4 1) (ts0 : tR C s0 0) (hf : gj122_22 a0 x1 x2 x3 o4 s0 C = some r) : EX (j122_22 (some a0) x1 x2 x3 o4 s0 h) (fun z => (r.1, z)) (QC C r.2) := by
  have E := Ext.rfl' (C := C)
  unfold gj122_22 at hf
  unfold j122_22
  by_cases c_1 : s0 = none
  · replace hf := x_pos c_1 hf
    refine EX.pos c_1 ?_
    obtain rfl := Option.some.inj hf
    exact ⟨_, rfl, H, E⟩
  · replace hf := x_neg c_1 hf
    refine EX.neg c_1 ?_
    by_cases c_2 : x3 = 0
    · replace hf := x_pos c_2 hf
      refine EX.pos c_2 ?_
      obtain ⟨a_3, ea_3, hf⟩ := x_bind hf
      refine EX.bd (H.gI ea_3 ts0 (by decide) (by decide) rfl) ?_
      obtain rfl := Option.some.inj hf
      exact ⟨_, rfl, H, E⟩
    · replace hf := x_neg c_2 hf
      refine EX.neg c_2 ?_
      by_cases c_4 : x3 = 1
      · replace hf := x_pos c_4 hf
        refine EX.pos c_4 ?_
        obtain ⟨a_5, ea_5, hf⟩ := x_bind hf
        refine EX.bd (H.gI ea_5 ts0 (by decide) (by decide) rfl) ?_
        obtain rfl := Option.some.inj hf
        exact ⟨_, rfl, H, E⟩
      · replace hf := x_neg c_4 hf
        refine EX.neg c_4 ?_
        by_cases c_6 : x3 = 2
        · replace hf := x_pos c_6 hf
          refine EX.pos c_6 ?_
          obtain ⟨a_7, ea_7, hf⟩ := x_bind hf
          refine EX.bd (H.gI ea_7 ts0 (by decide) (by decide) rfl) ?_
          obtain rfl := Option.some.inj hf
          exact ⟨_, rfl, H, E⟩
        · replace hf := x_neg c_6 hf
          refine EX.neg c_6 ?_
          by_cases c_8 : x3 = 3
          · replace hf := x_pos c_8 hf
            refine EX.pos c_8 ?_
            obtain ⟨a_9, ea_9, hf⟩ := x_bind hf
            refine EX.bd (H.gI ea_9 ts0 (by decide) (by decide) rfl) ?_
            obtain rfl := Option.some.inj hf
            exact ⟨_, rfl, H, E⟩
          · replace hf := x_neg c_8 hf
            refine EX.neg c_8 ?_
            obtain rfl := Option.some.inj hf
            exact ⟨_, rfl, H, E⟩
theorem g122_ok {h : xH} {C : xC} {o0 : Option Nat} {a0 : Nat} {x1 : Int32} {x2 : Int32} {x3 : Int32} {r : (Int32 × xC)} (H : WH h C) (e0 : o0 = some a0) (ta0 : tR C o0 10) (hf : g122 a0 x1 x2 x3 C = some r) : EX (fn122 o0 x1 x2 x3 h) (fun z => (r.1, z)) (QC C r.2) := by
  subst e0
  have E := Ext.rfl' (C := C)
  unfold g122 at hf
  unfold fn122
  have Hc_ := H.cv rfl ta0 (by decide)
  obtain ⟨r_2, er_2, hf⟩ := x_bind hf
  obtain ⟨h_1, eh_1, H, E_, t_3⟩ := g133_ok H rfl ta0 er_2
  refine EX.bd Hc_ ?_
  refine EX.bd eh_1 ?_
  dsimp only
  replace ta0 := ta0.up E_
  replace E := E.tr E_
  by_cases c_4 : r_2.1 = none
  · replace hf := x_pos c_4 hf
    refine EX.pos c_4 ?_
    exact EX.uC E (gj122_22_ok H ta0 t_3 tR_none hf)
  · replace hf := x_neg c_4 hf
    refine EX.neg c_4 ?_
    obtain ⟨a_7, ea_7, hf⟩ := x_bind hf
    have Hc_ := H.cv ea_7 t_3 (by decide)
    obtain ⟨r_6, er_6, hf⟩ := x_bind hf
    obtain ⟨h_5, eh_5, H, E_, t_8⟩ := g5_ok H ea_7 t_3 er_6
    refine EX.bd Hc_ ?_
    refine EX.bd eh_5 ?_
    dsimp only
    replace t_3 := t_3.up E_
    replace ta0 := ta0.up E_
    replace E := E.tr E_
    exact EX.uC E (gj122_22_ok H ta0 t_3 t_8 hf)
end
section
theorem gj123_149_ok {h : xH} {C : xC} {a0 : Nat} {x1 : Int32} {x2 : Int32} {x3 : Int32} {o4 : Option Nat} {o5 : Option Nat} {s0 : Int32} {r : (Int32 × xC)} (H : WH h C) (ta0 : tR C (some a0) 10) (to4 : tR C o4 1) (to5 : tR C o5 6) (hf : gj123_149 a0 x1 x2 x3 o4 o5 s0 C = some r) : EX (j123_149 (some a0) x1 x2 x3 o4 o5 s0 h) (fun z => (r.1, z)) (QC C r.2) := by
  have E := Ext.rfl' (C := C)
  unfold gj123_149 at hf
  unfold j123_149
  obtain rfl := Option.some.inj hf
  exact ⟨_, rfl, H, E⟩
theorem gj123_105_ok {h : xH} {C : xC} {a0 : Nat} {x1 : Int32} {x2 : Int32} {x3 : Int32} {o4 : Option Nat} {o5 : Option Nat} {s0 : Int32} {r : (Int32 × xC)} (H : WH h C) (ta0 : tR C (some a0) 10) (to4 : tR C o4 1) (to5 : tR C o5 6) (hf : gj123_105 a0 x1 x2 x3 o4 o5 s0 C = some r) : EX (j123_105 (some a0) x1 x2 x3 o4 o5 s0 h) (fun z => (r.1, z)) (QC C r.2) := by
  have E := Ext.rfl' (C := C)
  unfold gj123_105 at hf
  unfold j123_105
  obtain rfl := Option.some.inj hf
  exact ⟨_, rfl, H, E⟩
theorem gj123_22_ok {h : xH} {C : xC} {a0 : Nat} {x1 : Int32} {x2 : Int32} {x3 : Int32} {o4 : Option Nat} {s0 : Option Nat} {r : (Int32 × xC)} (H : WH h C) (ta0 : tR C (some a0) 10) (to4 : tR C o4 1) (ts0 : tR C s0 6) (hf : gj123_22 a0 x1 x2 x3 o4 s0 C = some r) : EX (j123_22 (some a0) x1 x2 x3 o4 s0 h) (fun z => (r.1, z)) (QC C r.2) := by
  have E := Ext.rfl' (C := C)
  unfold gj123_22 at hf
  unfold j123_22
  by_cases c_1 : s0 = none
  · replace hf := x_pos c_1 hf
    refine EX.pos c_1 ?_
    obtain rfl := Option.some.inj hf
    exact ⟨_, rfl, H, E⟩
  · replace hf := x_neg c_1 hf
    refine EX.neg c_1 ?_
    by_cases c_2 : x3 = 0
    · replace hf := x_pos c_2 hf
      refine EX.pos c_2 ?_
      obtain ⟨a_3, ea_3, hf⟩ := x_bind hf
      refine EX.bd (H.gI ea_3 ts0 (by decide) (by decide) rfl) ?_
      obtain rfl := Option.some.inj hf
      exact ⟨_, rfl, H, E⟩
    · replace hf := x_neg c_2 hf
      refine EX.neg c_2 ?_
      by_cases c_4 : x3 = 1
      · replace hf := x_pos c_4 hf
        refine EX.pos c_4 ?_
        obtain ⟨a_5, ea_5, hf⟩ := x_bind hf
        refine EX.bd (H.gI ea_5 ts0 (by decide) (by decide) rfl) ?_
        obtain rfl := Option.some.inj hf
        exact ⟨_, rfl, H, E⟩
      · replace hf := x_neg c_4 hf
        refine EX.neg c_4 ?_
        by_cases c_6 : x3 = 2
        · replace hf := x_pos c_6 hf
          refine EX.pos c_6 ?_
          obtain ⟨a_7, ea_7, hf⟩ := x_bind hf
          refine EX.bd (H.gI ea_7 ts0 (by decide) (by decide) rfl) ?_
          refine EX.bd (H.gI ea_7 ts0 (by decide) (by decide) rfl) ?_
          obtain rfl := Option.some.inj hf
          exact ⟨_, rfl, H, E⟩
        · replace hf := x_neg c_6 hf
          refine EX.neg c_6 ?_
          by_cases c_8 : x3 = 3
          · replace hf := x_pos c_8 hf
            refine EX.pos c_8 ?_
            obtain ⟨a_9, ea_9, hf⟩ := x_bind hf
            refine EX.bd (H.gI ea_9 ts0 (by decide) (by decide) rfl) ?_
            by_cases c_10 : (cI C a_9 6) = 0
            · replace hf := x_pos c_10 hf
              refine EX.pos c_10 ?_
              exact EX.uC E (gj123_105_ok H ta0 to4 ts0 hf)
            · replace hf := x_neg c_10 hf
              refine EX.neg c_10 ?_
              exact EX.uC E (gj123_105_ok H ta0 to4 ts0 hf)
          · replace hf := x_neg c_8 hf
            refine EX.neg c_8 ?_
            by_cases c_11 : x3 = 4
            · replace hf := x_pos c_11 hf
              refine EX.pos c_11 ?_
              obtain ⟨a_12, ea_12, hf⟩ := x_bind hf
              refine EX.bd (H.gI ea_12 ts0 (by decide) (by decide) rfl) ?_
              by_cases c_13 : (cI C a_12 0) = 2
              · replace hf := x_pos c_13 hf
                refine EX.pos c_13 ?_
                refine EX.bd (H.gR rfl ta0 (by decide) (by decide) (by decide)) ?_
                have t_14 := H.tyR rfl ta0 (ci := 10) (k := 1) (by decide) (by decide) (by decide)
                obtain ⟨a_15, ea_15, hf⟩ := x_bind hf
                refine EX.bd (H.gR ea_15 to4 (by decide) (by decide) (by decide)) ?_
                have t_16 := H.tyR ea_15 to4 (ci := 1) (k := 0) (by decide) (by decide) (by decide)
                refine EX.bd (H.gI ea_12 ts0 (by decide) (by decide) rfl) ?_
                refine EX.bd (H.gI ea_12 ts0 (by decide) (by decide) rfl) ?_
                refine EX.bd (H.gR ea_15 to4 (by decide) (by decide) (by decide)) ?_
                have t_17 := H.tyR ea_15 to4 (ci := 1) (k := 5) (by decide) (by decide) (by decide)
                obtain ⟨a_20, ea_20, hf⟩ := x_bind hf
                have Hc_ := H.cv ea_20 t_14 (by decide)
                obtain ⟨r_19, er_19, hf⟩ := x_bind hf
                obtain ⟨h_18, eh_18, H, E_, t_21⟩ := g93_ok H ea_20 t_14 t_16 t_17 er_19
                refine EX.bd Hc_ ?_
                refine EX.bd eh_18 ?_
                dsimp only
                replace to4 := to4.up E_
                replace ta0 := ta0.up E_
                replace t_14 := t_14.up E_
                replace ts0 := ts0.up E_
                replace E := E.tr E_
                obtain ⟨r_23, er_23, hf⟩ := x_bind hf
                obtain ⟨h_22, eh_22, H, E_⟩ := g134_ok H t_21 er_23
                refine EX.bd eh_22 ?_
                dsimp only
                replace to4 := to4.up E_
                replace ta0 := ta0.up E_
                replace t_14 := t_14.up E_
                replace ts0 := ts0.up E_
                replace E := E.tr E_
                exact EX.uC E (gj123_149_ok H ta0 to4 ts0 hf)
              · replace hf := x_neg c_13 hf
                refine EX.neg c_13 ?_
                exact EX.uC E (gj123_149_ok H ta0 to4 ts0 hf)
            · replace hf := x_neg c_11 hf
              refine EX.neg c_11 ?_
              obtain rfl := Option.some.inj hf
              exact ⟨_, rfl, H, E⟩
theorem g123_ok {h : xH} {C : xC} {o0 : Option Nat} {a0 : Nat} {x1 : Int32} {x2 : Int32} {x3 : Int32} {r : (Int32 × xC)} (H : WH h C) (e0 : o0 = some a0) (ta0 : tR C o0 10) (hf : g123 a0 x1 x2 x3 C = some r) : EX (fn123 o0 x1 x2 x3 h) (fun z => (r.1, z)) (QC C r.2) := by
  subst e0
  have E := Ext.rfl' (C := C)
  unfold g123 at hf
  unfold fn123
  have Hc_ := H.cv rfl ta0 (by decide)
  obtain ⟨r_2, er_2, hf⟩ := x_bind hf
  obtain ⟨h_1, eh_1, H, E_, t_3⟩ := g133_ok H rfl ta0 er_2
  refine EX.bd Hc_ ?_
  refine EX.bd eh_1 ?_
  dsimp only
  replace ta0 := ta0.up E_
  replace E := E.tr E_
  by_cases c_4 : r_2.1 = none
  · replace hf := x_pos c_4 hf
    refine EX.pos c_4 ?_
    exact EX.uC E (gj123_22_ok H ta0 t_3 tR_none hf)
  · replace hf := x_neg c_4 hf
    refine EX.neg c_4 ?_
    obtain ⟨a_7, ea_7, hf⟩ := x_bind hf
    have Hc_ := H.cv ea_7 t_3 (by decide)
    obtain ⟨r_6, er_6, hf⟩ := x_bind hf
    obtain ⟨h_5, eh_5, H, E_, t_8⟩ := g6_ok H ea_7 t_3 er_6
    refine EX.bd Hc_ ?_
    refine EX.bd eh_5 ?_
    dsimp only
    replace t_3 := t_3.up E_
    replace ta0 := ta0.up E_
    replace E := E.tr E_
    exact EX.uC E (gj123_22_ok H ta0 t_3 t_8 hf)
end
section
theorem gj124_66_ok {h : xH} {C : xC} {a0 : Nat} {x1 : Int32} {o2 : Option Nat} {x3 : Int32} {r : (Int32 × xC)} (H : WH h C) (ta0 : tR C (some a0) 10) (to2 : tR C o2 2) (hf : gj124_66 a0 x1 o2 x3 C = some r) : EX (j124_66 (some a0) x1 o2 x3 h) (fun z => (r.1, z)) (QC C r.2) := by
  have E := Ext.rfl' (C := C)
  unfold gj124_66 at hf
  unfold j124_66
  refine EX.bd (H.gR rfl ta0 (by decide) (by decide) (by decide)) ?_
  have t_1 := H.tyR rfl ta0 (ci := 10) (k := 0) (by decide) (by decide) (by decide)
  obtain ⟨a_4, ea_4, hf⟩ := x_bind hf
  have Hc_ := H.cv ea_4 t_1 (by decide)
  obtain ⟨C_3, eC_3, hf⟩ := x_bind hf
  obtain ⟨h_2, eh_2, H, E_⟩ := g101_ok H ea_4 t_1 eC_3
  refine EX.bd Hc_ ?_
  refine EX.bd eh_2 ?_
  replace t_1 := t_1.up E_
  replace ta0 := ta0.up E_
  replace to2 := to2.up E_
  replace E := E.tr E_
  obtain rfl := Option.some.inj hf
  exact ⟨_, rfl, H, E⟩
theorem gj124_19_ok {h : xH} {C : xC} {a0 : Nat} {x1 : Int32} {o2 : Option Nat} {s0 : Int32} {r : (Int32 × xC)} (H : WH h C) (ta0 : tR C (some a0) 10) (to2 : tR C o2 2) (hf : gj124_19 a0 x1 o2 s0 C = some r) : EX (j124_19 (some a0) x1 o2 s0 h) (fun z => (r.1, z)) (QC C r.2) := by
  have E := Ext.rfl' (C := C)
  unfold gj124_19 at hf
  unfold j124_19
  by_cases c_1 : o2 = none
  · replace hf := x_pos c_1 hf
    refine EX.pos c_1 ?_
    exact EX.uC E (gj124_66_ok H ta0 to2 hf)
  · replace hf := x_neg c_1 hf
    refine EX.neg c_1 ?_
    refine EX.bd (H.gR rfl ta0 (by decide) (by decide) (by decide)) ?_
    have t_2 := H.tyR rfl ta0 (ci := 10) (k := 0) (by decide) (by decide) (by decide)
    refine EX.bd (H.gR rfl ta0 (by decide) (by decide) (by decide)) ?_
    obtain ⟨a_3, ea_3, hf⟩ := x_bind hf
    refine EX.bd (H.gI ea_3 t_2 (by decide) (by decide) rfl) ?_
    have Hc_ := H.cv ea_3 t_2 (by decide)
    obtain ⟨r_5, er_5, hf⟩ := x_bind hf
    obtain ⟨h_4, eh_4, H, E_⟩ := g109_ok H ea_3 t_2 er_5
    refine EX.bd Hc_ ?_
    refine EX.bd eh_4 ?_
    dsimp only
    replace t_2 := t_2.up E_
    replace ta0 := ta0.up E_
    replace to2 := to2.up E_
    replace E := E.tr E_
    by_cases c_6 : r_5.1 = 0
    · replace hf := x_pos c_6 hf
      refine EX.pos c_6 ?_
      exact EX.uC E (gj124_66_ok H ta0 to2 hf)
    · replace hf := x_neg c_6 hf
      refine EX.neg c_6 ?_
      refine EX.bd (H.gR rfl ta0 (by decide) (by decide) (by decide)) ?_
      have t_7 := H.tyR rfl ta0 (ci := 10) (k := 1) (by decide) (by decide) (by decide)
      refine EX.bd (H.gR rfl ta0 (by decide) (by decide) (by decide)) ?_
      have t_8 := H.tyR rfl ta0 (ci := 10) (k := 0) (by decide) (by decide) (by decide)
      refine EX.bd (H.gR rfl ta0 (by decide) (by decide) (by decide)) ?_
      obtain ⟨a_9, ea_9, hf⟩ := x_bind hf
      refine EX.bd (H.gI ea_9 t_8 (by decide) (by decide) rfl) ?_
      obtain ⟨a_12, ea_12, hf⟩ := x_bind hf
      have Hc_ := H.cv ea_12 t_7 (by decide)
      obtain ⟨r_11, er_11, hf⟩ := x_bind hf
      obtain ⟨h_10, eh_10, H, E_, t_13⟩ := g93_ok H ea_12 t_7 t_8 to2 er_11
      refine EX.bd Hc_ ?_
      refine EX.bd eh_10 ?_
      dsimp only
      replace t_8 := t_8.up E_
      replace ta0 := ta0.up E_
      replace to2 := to2.up E_
      replace t_2 := t_2.up E_
      replace t_7 := t_7.up E_
      replace E := E.tr E_
      obtain ⟨r_15, er_15, hf⟩ := x_bind hf
      obtain ⟨h_14, eh_14, H, E_⟩ := g134_ok H t_13 er_15
      refine EX.bd eh_14 ?_
      dsimp only
      replace t_8 := t_8.up E_
      replace ta0 := ta0.up E_
      replace to2 := to2.up E_
      replace t_2 := t_2.up E_
      replace t_7 := t_7.up E_
      replace E := E.tr E_
      exact EX.uC E (gj124_66_ok H ta0 to2 hf)
theorem g124_ok {h : xH} {C : xC} {o0 : Option Nat} {a0 : Nat} {x1 : Int32} {r : (Int32 × xC)} (H : WH h C) (e0 : o0 = some a0) (ta0 : tR C o0 10) (hf : g124 a0 x1 C = some r) : EX (fn124 o0 x1 h) (fun z => (r.1, z)) (QC C r.2) := by
  subst e0
  have E := Ext.rfl' (C := C)
  unfold g124 at hf
  unfold fn124
  refine EX.bd (H.gR rfl ta0 (by decide) (by decide) (by decide)) ?_
  have t_1 := H.tyR rfl ta0 (ci := 10) (k := 1) (by decide) (by decide) (by decide)
  obtain ⟨a_4, ea_4, hf⟩ := x_bind hf
  have Hc_ := H.cv ea_4 t_1 (by decide)
  obtain ⟨r_3, er_3, hf⟩ := x_bind hf
  obtain ⟨h_2, eh_2, H, E_, t_5⟩ := g83_ok H ea_4 t_1 er_3
  refine EX.bd Hc_ ?_
  refine EX.bd eh_2 ?_
  dsimp only
  replace ta0 := ta0.up E_
  replace t_1 := t_1.up E_
  replace E := E.tr E_
  by_cases c_6 : r_3.1 = none
  · replace hf := x_pos c_6 hf
    refine EX.pos c_6 ?_
    exact EX.uC E (gj124_19_ok H ta0 t_5 hf)
  · replace hf := x_neg c_6 hf
    refine EX.neg c_6 ?_
    exact EX.uC E (gj124_19_ok H ta0 t_5 hf)
end
section
theorem gj125_36_ok {h : xH} {C : xC} {a0 : Nat} {x1 : Int32} {x2 : Int32} {x3 : Int32} {o4 : Option Nat} {r : (Int32 × xC)} (H : WH h C) (ta0 : tR C (some a0) 10) (to4 : tR C o4 2) (hf : gj125_36 a0 x1 x2 x3 o4 C = some r) : EX (j125_36 (some a0) x1 x2 x3 o4 h) (fun z => (r.1, z)) (QC C r.2) := by
  have E := Ext.rfl' (C := C)
  unfold gj125_36 at hf
  unfold j125_36
  obtain rfl := Option.some.inj hf
  exact ⟨_, rfl, H, E⟩
theorem g125_ok {h : xH} {C : xC} {o0 : Option Nat} {a0 : Nat} {x1 : Int32} {x2 : Int32} {x3 : Int32} {r : (Int32 × xC)} (H : WH h C) (e0 : o0 = some a0) (ta0 : tR C o0 10) (hf : g125 a0 x1 x2 x3 C = some r) : EX (fn125 o0 x1 x2 x3 h) (fun z => (r.1, z)) (QC C r.2) := by
  subst e0
  have E := Ext.rfl' (C := C)
  unfold g125 at hf
  unfold fn125
  refine EX.bd (H.gR rfl ta0 (by decide) (by decide) (by decide)) ?_
  have t_1 := H.tyR rfl ta0 (ci := 10) (k := 1) (by decide) (by decide) (by decide)
  obtain ⟨a_4, ea_4, hf⟩ := x_bind hf
  have Hc_ := H.cv ea_4 t_1 (by decide)
  obtain ⟨r_3, er_3, hf⟩ := x_bind hf
  obtain ⟨h_2, eh_2, H, E_, t_5⟩ := g83_ok H ea_4 t_1 er_3
  refine EX.bd Hc_ ?_
  refine EX.bd eh_2 ?_
  dsimp only
  replace ta0 := ta0.up E_
  replace t_1 := t_1.up E_
  replace E := E.tr E_
  by_cases c_6 : r_3.1 = none
  · replace hf := x_pos c_6 hf
    refine EX.pos c_6 ?_
    exact EX.uC E (gj125_36_ok H ta0 t_5 hf)
  · replace hf := x_neg c_6 hf
    refine EX.neg c_6 ?_
    by_cases c_7 : x2 < 12
    · replace hf := x_pos c_7 hf
      refine EX.pos c_7 ?_
      exact EX.uC E (gj125_36_ok H ta0 t_5 hf)
    · replace hf := x_neg c_7 hf
      refine EX.neg c_7 ?_
      by_cases c_8 : 60 < x2
      · replace hf := x_pos c_8 hf
        refine EX.pos c_8 ?_
        exact EX.uC E (gj125_36_ok H ta0 t_5 hf)
      · replace hf := x_neg c_8 hf
        refine EX.neg c_8 ?_
        by_cases c_9 : x3 < 0
        · replace hf := x_pos c_9 hf
          refine EX.pos c_9 ?_
          exact EX.uC E (gj125_36_ok H ta0 t_5 hf)
        · replace hf := x_neg c_9 hf
          refine EX.neg c_9 ?_
          by_cases c_10 : x3 ≤ 1
          · replace hf := x_pos c_10 hf
            refine EX.pos c_10 ?_
            refine EX.bd (H.gR rfl ta0 (by decide) (by decide) (by decide)) ?_
            have t_11 := H.tyR rfl ta0 (ci := 10) (k := 1) (by decide) (by decide) (by decide)
            obtain ⟨a_14, ea_14, hf⟩ := x_bind hf
            have Hc_ := H.cv ea_14 t_11 (by decide)
            obtain ⟨r_13, er_13, hf⟩ := x_bind hf
            obtain ⟨h_12, eh_12, H, E_, t_15⟩ := g91_ok H ea_14 t_11 t_5 er_13
            refine EX.bd Hc_ ?_
            refine EX.bd eh_12 ?_
            dsimp only
            replace ta0 := ta0.up E_
            replace t_1 := t_1.up E_
            replace t_11 := t_11.up E_
            replace t_5 := t_5.up E_
            replace E := E.tr E_
            refine EX.bd (H.gR rfl ta0 (by decide) (by decide) (by decide)) ?_
            have t_16 := H.tyR rfl ta0 (ci := 10) (k := 3) (by decide) (by decide) (by decide)
            obtain ⟨a_19, ea_19, hf⟩ := x_bind hf
            have Hc_ := H.cv ea_19 t_16 (by decide)
            obtain ⟨C_18, eC_18, hf⟩ := x_bind hf
            obtain ⟨h_17, eh_17, H, E_⟩ := g19_ok H ea_19 t_16 eC_18
            refine EX.bd Hc_ ?_
            refine EX.bd eh_17 ?_
            replace t_11 := t_11.up E_
            replace t_15 := t_15.up E_
            replace t_16 := t_16.up E_
            replace ta0 := ta0.up E_
            replace t_1 := t_1.up E_
            replace t_5 := t_5.up E_
            replace E := E.tr E_
            refine EX.bd (H.gR rfl ta0 (by decide) (by decide) (by decide)) ?_
            have t_20 := H.tyR rfl ta0 (ci := 10) (k := 3) (by decide) (by decide) (by decide)
            refine EX.bd (H.gR rfl ta0 (by decide) (by decide) (by decide)) ?_
            have t_21 := H.tyR rfl ta0 (ci := 10) (k := 1) (by decide) (by decide) (by decide)
            obtain ⟨a_24, ea_24, hf⟩ := x_bind hf
            have Hc_ := H.cv ea_24 t_20 (by decide)
            obtain ⟨C_23, eC_23, hf⟩ := x_bind hf
            obtain ⟨h_22, eh_22, H, E_⟩ := g20_ok H ea_24 t_20 t_21 t_15 eC_23
            refine EX.bd Hc_ ?_
            refine EX.bd eh_22 ?_
            replace t_11 := t_11.up E_
            replace t_15 := t_15.up E_
            replace t_16 := t_16.up E_
            replace ta0 := ta0.up E_
            replace t_1 := t_1.up E_
            replace t_20 := t_20.up E_
            replace t_5 := t_5.up E_
            replace E := E.tr E_
            refine EX.bd (H.gR rfl ta0 (by decide) (by decide) (by decide)) ?_
            have t_25 := H.tyR rfl ta0 (ci := 10) (k := 3) (by decide) (by decide) (by decide)
            obtain ⟨a_28, ea_28, hf⟩ := x_bind hf
            have Hc_ := H.cv ea_28 t_25 (by decide)
            obtain ⟨C_27, eC_27, hf⟩ := x_bind hf
            obtain ⟨h_26, eh_26, H, E_⟩ := g21_ok H ea_28 t_25 t_15 eC_27
            refine EX.bd Hc_ ?_
            refine EX.bd eh_26 ?_
            replace t_11 := t_11.up E_
            replace t_15 := t_15.up E_
            replace t_16 := t_16.up E_
            replace t_25 := t_25.up E_
            replace ta0 := ta0.up E_
            replace t_1 := t_1.up E_
            replace t_20 := t_20.up E_
            replace t_5 := t_5.up E_
            replace E := E.tr E_
            refine EX.bd (H.gR rfl ta0 (by decide) (by decide) (by decide)) ?_
            have t_29 := H.tyR rfl ta0 (ci := 10) (k := 3) (by decide) (by decide) (by decide)
            refine EX.bd (H.gR rfl ta0 (by decide) (by decide) (by decide)) ?_
            have t_30 := H.tyR rfl ta0 (ci := 10) (k := 1) (by decide) (by decide) (by decide)
            obtain ⟨a_33, ea_33, hf⟩ := x_bind hf
            have Hc_ := H.cv ea_33 t_29 (by decide)
            obtain ⟨C_32, eC_32, hf⟩ := x_bind hf
            obtain ⟨h_31, eh_31, H, E_⟩ := g23_ok H ea_33 t_29 t_30 eC_32
            refine EX.bd Hc_ ?_
            refine EX.bd eh_31 ?_
            replace t_11 := t_11.up E_
            replace t_15 := t_15.up E_
            replace t_16 := t_16.up E_
            replace t_29 := t_29.up E_
            replace t_25 := t_25.up E_
            replace ta0 := ta0.up E_
            replace t_1 := t_1.up E_
            replace t_20 := t_20.up E_
            replace t_5 := t_5.up E_
            replace E := E.tr E_
            refine EX.bd (H.gR rfl ta0 (by decide) (by decide) (by decide)) ?_
            have t_34 := H.tyR rfl ta0 (ci := 10) (k := 3) (by decide) (by decide) (by decide)
            refine EX.bd (H.gR rfl ta0 (by decide) (by decide) (by decide)) ?_
            have t_35 := H.tyR rfl ta0 (ci := 10) (k := 7) (by decide) (by decide) (by decide)
            obtain ⟨a_38, ea_38, hf⟩ := x_bind hf
            have Hc_ := H.cv ea_38 t_34 (by decide)
            obtain ⟨C_37, eC_37, hf⟩ := x_bind hf
            obtain ⟨h_36, eh_36, H, E_⟩ := g24_ok H ea_38 t_34 t_35 t_5 eC_37
            refine EX.bd Hc_ ?_
            refine EX.bd eh_36 ?_
            replace t_11 := t_11.up E_
            replace t_15 := t_15.up E_
            replace t_16 := t_16.up E_
            replace t_29 := t_29.up E_
            replace t_25 := t_25.up E_
            replace ta0 := ta0.up E_
            replace t_1 := t_1.up E_
            replace t_34 := t_34.up E_
            replace t_20 := t_20.up E_
            replace t_5 := t_5.up E_
            replace E := E.tr E_
            refine EX.bd (H.gR rfl ta0 (by decide) (by decide) (by decide)) ?_
            have t_39 := H.tyR rfl ta0 (ci := 10) (k := 7) (by decide) (by decide) (by decide)
            obtain ⟨a_40, ea_40, hf⟩ := x_bind hf
            refine EX.bd (H.gI ea_40 t_39 (by decide) (by decide) rfl) ?_
            by_cases c_41 : (cI C_37 a_40 8) = 0
            · replace hf := x_pos c_41 hf
              refine EX.pos c_41 ?_
              refine EX.bd (H.gR rfl ta0 (by decide) (by decide) (by decide)) ?_
              refine EX.bd (H.gR rfl ta0 (by decide) (by decide) (by decide)) ?_
              have t_42 := H.tyR rfl ta0 (ci := 10) (k := 6) (by decide) (by decide) (by decide)
              obtain ⟨C_43, eC_43, hf⟩ := x_bind hf
              obtain ⟨h_44, eh_44, H, E_⟩ := H.pR (ci := 10) (k := 7) (ty := (.object "DocFormat$Page")) rfl ta0 t_42 (by decide) (by decide) (by decide) rfl rfl eC_43
              refine EX.bd eh_44 ?_
              replace t_39 := t_39.up E_
              replace t_11 := t_11.up E_
              replace t_15 := t_15.up E_
              replace t_16 := t_16.up E_
              replace t_29 := t_29.up E_
              replace t_25 := t_25.up E_
              replace ta0 := ta0.up E_
              replace t_1 := t_1.up E_
              replace t_34 := t_34.up E_
              replace t_20 := t_20.up E_
              replace t_5 := t_5.up E_
              replace E := E.tr E_
              obtain ⟨C_45, eC_45, hf⟩ := x_bind hf
              obtain ⟨h_46, eh_46, H, E_⟩ := H.pR (ci := 10) (k := 6) (ty := (.object "DocFormat$Page")) rfl ta0 t_39 (by decide) (by decide) (by decide) rfl rfl eC_45
              refine EX.bd eh_46 ?_
              replace t_39 := t_39.up E_
              replace t_11 := t_11.up E_
              replace t_15 := t_15.up E_
              replace t_16 := t_16.up E_
              replace t_29 := t_29.up E_
              replace t_25 := t_25.up E_
              replace ta0 := ta0.up E_
              replace t_1 := t_1.up E_
              replace t_34 := t_34.up E_
              replace t_20 := t_20.up E_
              replace t_5 := t_5.up E_
              replace E := E.tr E_
              refine EX.bd (H.gR rfl ta0 (by decide) (by decide) (by decide)) ?_
              have t_47 := H.tyR rfl ta0 (ci := 10) (k := 6) (by decide) (by decide) (by decide)
              obtain ⟨a_48, ea_48, hf⟩ := x_bind hf
              refine EX.bd (H.gI ea_48 t_47 (by decide) (by decide) rfl) ?_
              obtain rfl := Option.some.inj hf
              exact ⟨_, rfl, H, E⟩
            · replace hf := x_neg c_41 hf
              refine EX.neg c_41 ?_
              obtain rfl := Option.some.inj hf
              exact ⟨_, rfl, H, E⟩
          · replace hf := x_neg c_10 hf
            refine EX.neg c_10 ?_
            exact EX.uC E (gj125_36_ok H ta0 t_5 hf)
end
section
theorem g126_ok {h : xH} {C : xC} {o0 : Option Nat} {a0 : Nat} {x1 : Int32} {r : (Int32 × xC)} (H : WH h C) (e0 : o0 = some a0) (ta0 : tR C o0 10) (hf : g126 a0 x1 C = some r) : EX (fn126 o0 x1 h) (fun z => (r.1, z)) (QC C r.2) := by
  subst e0
  have E := Ext.rfl' (C := C)
  unfold g126 at hf
  unfold fn126
  by_cases c_1 : x1 = 0
  · replace hf := x_pos c_1 hf
    refine EX.pos c_1 ?_
    refine EX.bd (H.gR rfl ta0 (by decide) (by decide) (by decide)) ?_
    have t_2 := H.tyR rfl ta0 (ci := 10) (k := 6) (by decide) (by decide) (by decide)
    obtain ⟨a_3, ea_3, hf⟩ := x_bind hf
    refine EX.bd (H.gI ea_3 t_2 (by decide) (by decide) rfl) ?_
    obtain rfl := Option.some.inj hf
    exact ⟨_, rfl, H, E⟩
  · replace hf := x_neg c_1 hf
    refine EX.neg c_1 ?_
    by_cases c_4 : x1 = 1
    · replace hf := x_pos c_4 hf
      refine EX.pos c_4 ?_
      refine EX.bd (H.gR rfl ta0 (by decide) (by decide) (by decide)) ?_
      have t_5 := H.tyR rfl ta0 (ci := 10) (k := 6) (by decide) (by decide) (by decide)
      obtain ⟨a_6, ea_6, hf⟩ := x_bind hf
      refine EX.bd (H.gR ea_6 t_5 (by decide) (by decide) (by decide)) ?_
      have t_7 := H.tyR ea_6 t_5 (ci := 5) (k := 0) (by decide) (by decide) (by decide)
      obtain ⟨a_8, ea_8, hf⟩ := x_bind hf
      refine EX.bd (H.gI ea_8 t_7 (by decide) (by decide) rfl) ?_
      obtain rfl := Option.some.inj hf
      exact ⟨_, rfl, H, E⟩
    · replace hf := x_neg c_4 hf
      refine EX.neg c_4 ?_
      by_cases c_9 : x1 = 2
      · replace hf := x_pos c_9 hf
        refine EX.pos c_9 ?_
        refine EX.bd (H.gR rfl ta0 (by decide) (by decide) (by decide)) ?_
        have t_10 := H.tyR rfl ta0 (ci := 10) (k := 6) (by decide) (by decide) (by decide)
        obtain ⟨a_11, ea_11, hf⟩ := x_bind hf
        refine EX.bd (H.gI ea_11 t_10 (by decide) (by decide) rfl) ?_
        obtain rfl := Option.some.inj hf
        exact ⟨_, rfl, H, E⟩
      · replace hf := x_neg c_9 hf
        refine EX.neg c_9 ?_
        by_cases c_12 : x1 = 3
        · replace hf := x_pos c_12 hf
          refine EX.pos c_12 ?_
          refine EX.bd (H.gR rfl ta0 (by decide) (by decide) (by decide)) ?_
          have t_13 := H.tyR rfl ta0 (ci := 10) (k := 6) (by decide) (by decide) (by decide)
          obtain ⟨a_14, ea_14, hf⟩ := x_bind hf
          refine EX.bd (H.gI ea_14 t_13 (by decide) (by decide) rfl) ?_
          obtain rfl := Option.some.inj hf
          exact ⟨_, rfl, H, E⟩
        · replace hf := x_neg c_12 hf
          refine EX.neg c_12 ?_
          by_cases c_15 : x1 = 4
          · replace hf := x_pos c_15 hf
            refine EX.pos c_15 ?_
            refine EX.bd (H.gR rfl ta0 (by decide) (by decide) (by decide)) ?_
            have t_16 := H.tyR rfl ta0 (ci := 10) (k := 6) (by decide) (by decide) (by decide)
            obtain ⟨a_17, ea_17, hf⟩ := x_bind hf
            refine EX.bd (H.gI ea_17 t_16 (by decide) (by decide) rfl) ?_
            obtain rfl := Option.some.inj hf
            exact ⟨_, rfl, H, E⟩
          · replace hf := x_neg c_15 hf
            refine EX.neg c_15 ?_
            obtain rfl := Option.some.inj hf
            exact ⟨_, rfl, H, E⟩
end
section
theorem g127_ok {h : xH} {C : xC} {o0 : Option Nat} {a0 : Nat} {x1 : Int32} {r : (Int32 × xC)} (H : WH h C) (e0 : o0 = some a0) (ta0 : tR C o0 10) (hf : g127 a0 x1 C = some r) : EX (fn127 o0 x1 h) (fun z => (r.1, z)) (QC C r.2) := by
  subst e0
  have E := Ext.rfl' (C := C)
  unfold g127 at hf
  unfold fn127
  refine EX.bd (H.gR rfl ta0 (by decide) (by decide) (by decide)) ?_
  have t_1 := H.tyR rfl ta0 (ci := 10) (k := 6) (by decide) (by decide) (by decide)
  obtain ⟨a_2, ea_2, hf⟩ := x_bind hf
  refine EX.bd (H.gR ea_2 t_1 (by decide) (by decide) (by decide)) ?_
  have t_3 := H.tyR ea_2 t_1 (ci := 5) (k := 0) (by decide) (by decide) (by decide)
  obtain ⟨a_6, ea_6, hf⟩ := x_bind hf
  have Hc_ := H.cv ea_6 t_3 (by decide)
  obtain ⟨r_5, er_5, hf⟩ := x_bind hf
  obtain ⟨h_4, eh_4, H, E_⟩ := g96_ok H ea_6 t_3 er_5
  refine EX.bd Hc_ ?_
  refine EX.bd eh_4 ?_
  dsimp only
  replace t_1 := t_1.up E_
  replace ta0 := ta0.up E_
  replace t_3 := t_3.up E_
  replace E := E.tr E_
  obtain rfl := Option.some.inj hf
  exact ⟨_, rfl, H, E⟩
end
section
theorem gj128_28_ok {h : xH} {C : xC} {a0 : Nat} {x1 : Int32} {s0 : Int32} {r : (Int32 × xC)} (H : WH h C) (ta0 : tR C (some a0) 10) (hf : gj128_28 a0 x1 s0 C = some r) : EX (j128_28 (some a0) x1 s0 h) (fun z => (r.1, z)) (QC C r.2) := by
  have E := Ext.rfl' (C := C)
  unfold gj128_28 at hf
  unfold j128_28
  obtain rfl := Option.some.inj hf
  exact ⟨_, rfl, H, E⟩
theorem gj128_15_ok {h : xH} {C : xC} {a0 : Nat} {x1 : Int32} {r : (Int32 × xC)} (H : WH h C) (ta0 : tR C (some a0) 10) (hf : gj128_15 a0 x1 C = some r) : EX (j128_15 (some a0) x1 h) (fun z => (r.1, z)) (QC C r.2) := by
  have E := Ext.rfl' (C := C)
  unfold gj128_15 at hf
  unfold j128_15
  exact EX.uC E (gj128_28_ok H ta0 hf)
theorem g128_ok {h : xH} {C : xC} {o0 : Option Nat} {a0 : Nat} {x1 : Int32} {r : (Int32 × xC)} (H : WH h C) (e0 : o0 = some a0) (ta0 : tR C o0 10) (hf : g128 a0 x1 C = some r) : EX (fn128 o0 x1 h) (fun z => (r.1, z)) (QC C r.2) := by
  subst e0
  have E := Ext.rfl' (C := C)
  unfold g128 at hf
  unfold fn128
  by_cases c_1 : x1 < 0
  · replace hf := x_pos c_1 hf
    refine EX.pos c_1 ?_
    exact EX.uC E (gj128_15_ok H ta0 hf)
  · replace hf := x_neg c_1 hf
    refine EX.neg c_1 ?_
    refine EX.bd (H.gR rfl ta0 (by decide) (by decide) (by decide)) ?_
    have t_2 := H.tyR rfl ta0 (ci := 10) (k := 6) (by decide) (by decide) (by decide)
    obtain ⟨a_3, ea_3, hf⟩ := x_bind hf
    refine EX.bd (H.gI ea_3 t_2 (by decide) (by decide) rfl) ?_
    by_cases c_4 : x1 < (cI C a_3 3)
    · replace hf := x_pos c_4 hf
      refine EX.pos c_4 ?_
      refine EX.bd (H.gR rfl ta0 (by decide) (by decide) (by decide)) ?_
      refine EX.bd (H.gR ea_3 t_2 (by decide) (by decide) (by decide)) ?_
      have t_5 := H.tyR ea_3 t_2 (ci := 5) (k := 1) (by decide) (by decide) (by decide)
      obtain ⟨a_7, ea_7, hf⟩ := x_bind hf
      obtain ⟨v_6, ev_6, hf⟩ := x_bind hf
      refine EX.bd (H.ld ea_7 t_5 (by decide) (by decide) ev_6) ?_
      exact EX.uC E (gj128_28_ok H ta0 hf)
    · replace hf := x_neg c_4 hf
      refine EX.neg c_4 ?_
      exact EX.uC E (gj128_15_ok H ta0 hf)
end
section
theorem g129_ok {h : xH} {C : xC} {o0 : Option Nat} {a0 : Nat} {x1 : Int32} {r : (Int32 × xC)} (H : WH h C) (e0 : o0 = some a0) (ta0 : tR C o0 10) (hf : g129 a0 x1 C = some r) : EX (fn129 o0 x1 h) (fun z => (r.1, z)) (QC C r.2) := by
  subst e0
  have E := Ext.rfl' (C := C)
  unfold g129 at hf
  unfold fn129
  refine EX.bd (H.gR rfl ta0 (by decide) (by decide) (by decide)) ?_
  have t_1 := H.tyR rfl ta0 (ci := 10) (k := 6) (by decide) (by decide) (by decide)
  obtain ⟨a_4, ea_4, hf⟩ := x_bind hf
  have Hc_ := H.cv ea_4 t_1 (by decide)
  obtain ⟨r_3, er_3, hf⟩ := x_bind hf
  obtain ⟨h_2, eh_2, H, E_, t_5⟩ := g57_ok H ea_4 t_1 er_3
  refine EX.bd Hc_ ?_
  refine EX.bd eh_2 ?_
  dsimp only
  replace t_1 := t_1.up E_
  replace ta0 := ta0.up E_
  replace E := E.tr E_
  obtain ⟨r_7, er_7, hf⟩ := x_bind hf
  obtain ⟨h_6, eh_6, H, E_⟩ := g134_ok H t_5 er_7
  refine EX.bd eh_6 ?_
  dsimp only
  replace t_1 := t_1.up E_
  replace ta0 := ta0.up E_
  replace E := E.tr E_
  obtain rfl := Option.some.inj hf
  exact ⟨_, rfl, H, E⟩
end
