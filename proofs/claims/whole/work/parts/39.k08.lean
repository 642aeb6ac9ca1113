section
theorem g130_ok {h : xH} {C : xC} {o0 : Option Nat} {a0 : Nat} {x1 : Int32} {r : (Int32 × xC)} (H : WH h C) (e0 : o0 = some a0) (ta0 : tR C o0 10) (hf : g130 a0 x1 C = some r) : EX (fn130 o0 x1 h) (fun z => (r.1, z)) (QC C r.2) := by
  subst e0
  have E := Ext.rfl' (C := C)
  unfold g130 at hf
  unfold fn130
  refine EX.bd (H.gR rfl ta0 (by decide) (by decide) (by decide)) ?_
  have t_1 := H.tyR rfl ta0 (ci := 10) (k := 1) (by decide) (by decide) (by decide)
  obtain ⟨a_4, ea_4, hf⟩ := x_bind hf
  have Hc_ := H.cv ea_4 t_1 (by decide)
  obtain ⟨r_3, er_3, hf⟩ := x_bind hf
  obtain ⟨h_2, eh_2, H, E_, t_5⟩ := g83_ok H ea_4 t_1 er_3
  refine EX.bd Hc_ ?_
  refine EX.bd eh_2 ?_
  dsimp only
  replace ta0 := ta0.up E_
  replace t_1 := t_1.up E_
  replace E := E.tr E_
  by_cases c_6 : r_3.1 = none
  · replace hf := x_pos c_6 hf
    refine EX.pos c_6 ?_
    obtain rfl := Option.some.inj hf
    exact ⟨_, rfl, H, E⟩
  · replace hf := x_neg c_6 hf
    refine EX.neg c_6 ?_
    refine EX.bd (H.gR rfl ta0 (by decide) (by decide) (by decide)) ?_
    have t_7 := H.tyR rfl ta0 (ci := 10) (k := 4) (by decide) (by decide) (by decide)
    refine EX.bd (H.gR rfl ta0 (by decide) (by decide) (by decide)) ?_
    have t_8 := H.tyR rfl ta0 (ci := 10) (k := 1) (by decide) (by decide) (by decide)
    obtain ⟨a_11, ea_11, hf⟩ := x_bind hf
    have Hc_ := H.cv ea_11 t_7 (by decide)
    obtain ⟨C_10, eC_10, hf⟩ := x_bind hf
    obtain ⟨h_9, eh_9, H, E_⟩ := g42_ok H ea_11 t_7 t_8 t_5 eC_10
    refine EX.bd Hc_ ?_
    refine EX.bd eh_9 ?_
    replace t_7 := t_7.up E_
    replace ta0 := ta0.up E_
    replace t_1 := t_1.up E_
    replace t_5 := t_5.up E_
    replace E := E.tr E_
    refine EX.bd (H.gR rfl ta0 (by decide) (by decide) (by decide)) ?_
    have t_12 := H.tyR rfl ta0 (ci := 10) (k := 4) (by decide) (by decide) (by decide)
    obtain ⟨a_13, ea_13, hf⟩ := x_bind hf
    refine EX.bd (H.gI ea_13 t_12 (by decide) (by decide) rfl) ?_
    obtain rfl := Option.some.inj hf
    exact ⟨_, rfl, H, E⟩
end
section
theorem gj131_15_ok {h : xH} {C : xC} {a0 : Nat} {x1 : Int32} {x2 : Int32} {r : (Int32 × xC)} (H : WH h C) (ta0 : tR C (some a0) 10) (hf : gj131_15 a0 x1 x2 C = some r) : EX (j131_15 (some a0) x1 x2 h) (fun z => (r.1, z)) (QC C r.2) := by
  have E := Ext.rfl' (C := C)
  unfold gj131_15 at hf
  unfold j131_15
  obtain rfl := Option.some.inj hf
  exact ⟨_, rfl, H, E⟩
theorem g131_ok {h : xH} {C : xC} {o0 : Option Nat} {a0 : Nat} {x1 : Int32} {x2 : Int32} {r : (Int32 × xC)} (H : WH h C) (e0 : o0 = some a0) (ta0 : tR C o0 10) (hf : g131 a0 x1 x2 C = some r) : EX (fn131 o0 x1 x2 h) (fun z => (r.1, z)) (QC C r.2) := by
  subst e0
  have E := Ext.rfl' (C := C)
  unfold g131 at hf
  unfold fn131
  by_cases c_1 : x1 < 0
  · replace hf := x_pos c_1 hf
    refine EX.pos c_1 ?_
    exact EX.uC E (gj131_15_ok H ta0 hf)
  · replace hf := x_neg c_1 hf
    refine EX.neg c_1 ?_
    refine EX.bd (H.gR rfl ta0 (by decide) (by decide) (by decide)) ?_
    have t_2 := H.tyR rfl ta0 (ci := 10) (k := 4) (by decide) (by decide) (by decide)
    obtain ⟨a_3, ea_3, hf⟩ := x_bind hf
    refine EX.bd (H.gI ea_3 t_2 (by decide) (by decide) rfl) ?_
    by_cases c_4 : x1 < (cI C a_3 2)
    · replace hf := x_pos c_4 hf
      refine EX.pos c_4 ?_
      by_cases c_5 : x2 = 0
      · replace hf := x_pos c_5 hf
        refine EX.pos c_5 ?_
        refine EX.bd (H.gR rfl ta0 (by decide) (by decide) (by decide)) ?_
        refine EX.bd (H.gR ea_3 t_2 (by decide) (by decide) (by decide)) ?_
        have t_6 := H.tyR ea_3 t_2 (ci := 4) (k := 0) (by decide) (by decide) (by decide)
        obtain ⟨a_8, ea_8, hf⟩ := x_bind hf
        obtain ⟨v_7, ev_7, hf⟩ := x_bind hf
        refine EX.bd (H.ld ea_8 t_6 (by decide) (by decide) ev_7) ?_
        obtain rfl := Option.some.inj hf
        exact ⟨_, rfl, H, E⟩
      · replace hf := x_neg c_5 hf
        refine EX.neg c_5 ?_
        by_cases c_9 : x2 = 1
        · replace hf := x_pos c_9 hf
          refine EX.pos c_9 ?_
          refine EX.bd (H.gR rfl ta0 (by decide) (by decide) (by decide)) ?_
          refine EX.bd (H.gR ea_3 t_2 (by decide) (by decide) (by decide)) ?_
          have t_10 := H.tyR ea_3 t_2 (ci := 4) (k := 1) (by decide) (by decide) (by decide)
          obtain ⟨a_12, ea_12, hf⟩ := x_bind hf
          obtain ⟨v_11, ev_11, hf⟩ := x_bind hf
          refine EX.bd (H.ld ea_12 t_10 (by decide) (by decide) ev_11) ?_
          obtain rfl := Option.some.inj hf
          exact ⟨_, rfl, H, E⟩
        · replace hf := x_neg c_9 hf
          refine EX.neg c_9 ?_
          obtain rfl := Option.some.inj hf
          exact ⟨_, rfl, H, E⟩
    · replace hf := x_neg c_4 hf
      refine EX.neg c_4 ?_
      exact EX.uC E (gj131_15_ok H ta0 hf)
end
section
theorem g132_ok {h : xH} {C : xC} {o0 : Option Nat} {a0 : Nat} {x1 : Int32} {r : (Int32 × xC)} (H : WH h C) (e0 : o0 = some a0) (ta0 : tR C o0 10) (hf : g132 a0 x1 C = some r) : EX (fn132 o0 x1 h) (fun z => (r.1, z)) (QC C r.2) := by
  subst e0
  have E := Ext.rfl' (C := C)
  unfold g132 at hf
  unfold fn132
  by_cases c_1 : x1 = 0
  · replace hf := x_pos c_1 hf
    refine EX.pos c_1 ?_
    refine EX.bd (H.gR rfl ta0 (by decide) (by decide) (by decide)) ?_
    have t_2 := H.tyR rfl ta0 (ci := 10) (k := 1) (by decide) (by decide) (by decide)
    obtain ⟨a_3, ea_3, hf⟩ := x_bind hf
    refine EX.bd (H.gI ea_3 t_2 (by decide) (by decide) rfl) ?_
    obtain rfl := Option.some.inj hf
    exact ⟨_, rfl, H, E⟩
  · replace hf := x_neg c_1 hf
    refine EX.neg c_1 ?_
    by_cases c_4 : x1 = 1
    · replace hf := x_pos c_4 hf
      refine EX.pos c_4 ?_
      refine EX.bd (H.gR rfl ta0 (by decide) (by decide) (by decide)) ?_
      have t_5 := H.tyR rfl ta0 (ci := 10) (k := 1) (by decide) (by decide) (by decide)
      obtain ⟨a_8, ea_8, hf⟩ := x_bind hf
      have Hc_ := H.cv ea_8 t_5 (by decide)
      obtain ⟨r_7, er_7, hf⟩ := x_bind hf
      obtain ⟨h_6, eh_6, H, E_⟩ := g85_ok H ea_8 t_5 er_7
      refine EX.bd Hc_ ?_
      refine EX.bd eh_6 ?_
      dsimp only
      replace ta0 := ta0.up E_
      replace t_5 := t_5.up E_
      replace E := E.tr E_
      obtain rfl := Option.some.inj hf
      exact ⟨_, rfl, H, E⟩
    · replace hf := x_neg c_4 hf
      refine EX.neg c_4 ?_
      by_cases c_9 : x1 = 2
      · replace hf := x_pos c_9 hf
        refine EX.pos c_9 ?_
        refine EX.bd (H.gR rfl ta0 (by decide) (by decide) (by decide)) ?_
        have t_10 := H.tyR rfl ta0 (ci := 10) (k := 0) (by decide) (by decide) (by decide)
        obtain ⟨a_11, ea_11, hf⟩ := x_bind hf
        refine EX.bd (H.gI ea_11 t_10 (by decide) (by decide) rfl) ?_
        obtain rfl := Option.some.inj hf
        exact ⟨_, rfl, H, E⟩
      · replace hf := x_neg c_9 hf
        refine EX.neg c_9 ?_
        by_cases c_12 : x1 = 3
        · replace hf := x_pos c_12 hf
          refine EX.pos c_12 ?_
          refine EX.bd (H.gR rfl ta0 (by decide) (by decide) (by decide)) ?_
          have t_13 := H.tyR rfl ta0 (ci := 10) (k := 1) (by decide) (by decide) (by decide)
          obtain ⟨a_16, ea_16, hf⟩ := x_bind hf
          have Hc_ := H.cv ea_16 t_13 (by decide)
          obtain ⟨r_15, er_15, hf⟩ := x_bind hf
          obtain ⟨h_14, eh_14, H, E_⟩ := g86_ok H ea_16 t_13 er_15
          refine EX.bd Hc_ ?_
          refine EX.bd eh_14 ?_
          dsimp only
          replace ta0 := ta0.up E_
          replace t_13 := t_13.up E_
          replace E := E.tr E_
          obtain rfl := Option.some.inj hf
          exact ⟨_, rfl, H, E⟩
        · replace hf := x_neg c_12 hf
          refine EX.neg c_12 ?_
          obtain rfl := Option.some.inj hf
          exact ⟨_, rfl, H, E⟩
end
