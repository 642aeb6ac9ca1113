section
theorem gj71_147_ok {h : xH} {C : xC} {a0 : Nat} {x1 : Int32} {x2 : Int32} {x3 : Int32} {x4 : Int32} {x5 : Int32} {x6 : Int32} {r : xC} (H : WH h C) (ta0 : tR C (some a0) 7) (hf : gj71_147 a0 x1 x2 x3 x4 x5 x6 C = some r) : EX (j71_147 (some a0) x1 x2 x3 x4 x5 x6 h) (fun z => z) (QC C r) := by
  have E := Ext.rfl' (C := C)
  unfold gj71_147 at hf
  unfold j71_147
  obtain rfl := Option.some.inj hf
  exact ⟨_, rfl, H, E⟩
theorem gj71_124_ok {h : xH} {C : xC} {a0 : Nat} {x1 : Int32} {x2 : Int32} {x3 : Int32} {x4 : Int32} {x5 : Int32} {x6 : Int32} {r : xC} (H : WH h C) (ta0 : tR C (some a0) 7) (hf : gj71_124 a0 x1 x2 x3 x4 x5 x6 C = some r) : EX (j71_124 (some a0) x1 x2 x3 x4 x5 x6 h) (fun z => z) (QC C r) := by
  have E := Ext.rfl' (C := C)
  unfold gj71_124 at hf
  unfold j71_124
  have Hc_ := H.cv rfl ta0 (by decide)
  obtain ⟨C_2, eC_2, hf⟩ := x_bind hf
  obtain ⟨h_1, eh_1, H, E_⟩ := g74_ok H rfl ta0 eC_2
  refine EX.bd Hc_ ?_
  refine EX.bd eh_1 ?_
  replace ta0 := ta0.up E_
  replace E := E.tr E_
  exact EX.uC E (gj71_147_ok H ta0 hf)
theorem gj71_93_ok {h : xH} {C : xC} {a0 : Nat} {x1 : Int32} {x2 : Int32} {x3 : Int32} {x4 : Int32} {s0 : Int32} {r : xC} (H : WH h C) (ta0 : tR C (some a0) 7) (hf : gj71_93 a0 x1 x2 x3 x4 s0 C = some r) : EX (j71_93 (some a0) x1 x2 x3 x4 s0 h) (fun z => z) (QC C r) := by
  have E := Ext.rfl' (C := C)
  unfold gj71_93 at hf
  unfold j71_93
  refine EX.bd (H.gR rfl ta0 (by decide) (by decide) (by decide)) ?_
  have t_1 := H.tyR rfl ta0 (ci := 7) (k := 2) (by decide) (by decide) (by decide)
  obtain ⟨a_4, ea_4, hf⟩ := x_bind hf
  have Hc_ := H.cv ea_4 t_1 (by decide)
  obtain ⟨r_3, er_3, hf⟩ := x_bind hf
  obtain ⟨h_2, eh_2, H, E_⟩ := g106_ok H ea_4 t_1 er_3
  refine EX.bd Hc_ ?_
  refine EX.bd eh_2 ?_
  dsimp only
  replace ta0 := ta0.up E_
  replace t_1 := t_1.up E_
  replace E := E.tr E_
  refine EX.bd (H.gR rfl ta0 (by decide) (by decide) (by decide)) ?_
  have t_5 := H.tyR rfl ta0 (ci := 7) (k := 3) (by decide) (by decide) (by decide)
  by_cases c_6 : (cR r_3.2 a0 3) = none
  · replace hf := x_pos c_6 hf
    refine EX.pos c_6 ?_
    exact EX.uC E (gj71_124_ok H ta0 hf)
  · replace hf := x_neg c_6 hf
    refine EX.neg c_6 ?_
    refine EX.bd (H.gR rfl ta0 (by decide) (by decide) (by decide)) ?_
    obtain ⟨a_9, ea_9, hf⟩ := x_bind hf
    have Hc_ := H.cv ea_9 t_5 (by decide)
    obtain ⟨r_8, er_8, hf⟩ := x_bind hf
    obtain ⟨h_7, eh_7, H, E_⟩ := g2_ok H ea_9 t_5 er_8
    refine EX.bd Hc_ ?_
    refine EX.bd eh_7 ?_
    dsimp only
    replace ta0 := ta0.up E_
    replace t_5 := t_5.up E_
    replace t_1 := t_1.up E_
    replace E := E.tr E_
    by_cases c_10 : r_8.1 = 0
    · replace hf := x_pos c_10 hf
      refine EX.pos c_10 ?_
      exact EX.uC E (gj71_124_ok H ta0 hf)
    · replace hf := x_neg c_10 hf
      refine EX.neg c_10 ?_
      by_cases c_11 : x2 ≤ r_3.1
      · replace hf := x_pos c_11 hf
        refine EX.pos c_11 ?_
        exact EX.uC E (gj71_147_ok H ta0 hf)
      · replace hf := x_neg c_11 hf
        refine EX.neg c_11 ?_
        have Hc_ := H.cv rfl ta0 (by decide)
        obtain ⟨C_13, eC_13, hf⟩ := x_bind hf
        obtain ⟨h_12, eh_12, H, E_⟩ := g62_ok H rfl ta0 eC_13
        refine EX.bd Hc_ ?_
        refine EX.bd eh_12 ?_
        replace ta0 := ta0.up E_
        replace t_5 := t_5.up E_
        replace t_1 := t_1.up E_
        replace E := E.tr E_
        exact EX.uC E (gj71_147_ok H ta0 hf)
theorem gj71_68_ok {h : xH} {C : xC} {a0 : Nat} {x1 : Int32} {x2 : Int32} {x3 : Int32} {x4 : Int32} {r : xC} (H : WH h C) (ta0 : tR C (some a0) 7) (hf : gj71_68 a0 x1 x2 x3 x4 C = some r) : EX (j71_68 (some a0) x1 x2 x3 x4 h) (fun z => z) (QC C r) := by
  have E := Ext.rfl' (C := C)
  unfold gj71_68 at hf
  unfold j71_68
  have Hc_ := H.cv rfl ta0 (by decide)
  obtain ⟨C_2, eC_2, hf⟩ := x_bind hf
  obtain ⟨h_1, eh_1, H, E_⟩ := g66_ok H rfl ta0 eC_2
  refine EX.bd Hc_ ?_
  refine EX.bd eh_1 ?_
  replace ta0 := ta0.up E_
  replace E := E.tr E_
  by_cases c_3 : x4 = 3
  · replace hf := x_pos c_3 hf
    refine EX.pos c_3 ?_
    exact EX.uC E (gj71_93_ok H ta0 hf)
  · replace hf := x_neg c_3 hf
    refine EX.neg c_3 ?_
    have Hc_ := H.cv rfl ta0 (by decide)
    obtain ⟨r_5, er_5, hf⟩ := x_bind hf
    obtain ⟨h_4, eh_4, H, E_⟩ := g72_ok H rfl ta0 er_5
    refine EX.bd Hc_ ?_
    refine EX.bd eh_4 ?_
    dsimp only
    replace ta0 := ta0.up E_
    replace E := E.tr E_
    exact EX.uC E (gj71_93_ok H ta0 hf)
theorem gj71_50_ok {h : xH} {C : xC} {a0 : Nat} {x1 : Int32} {x2 : Int32} {x3 : Int32} {x4 : Int32} {r : xC} (H : WH h C) (ta0 : tR C (some a0) 7) (hf : gj71_50 a0 x1 x2 x3 x4 C = some r) : EX (j71_50 (some a0) x1 x2 x3 x4 h) (fun z => z) (QC C r) := by
  have E := Ext.rfl' (C := C)
  unfold gj71_50 at hf
  unfold j71_50
  refine EX.bd (H.gR rfl ta0 (by decide) (by decide) (by decide)) ?_
  have t_1 := H.tyR rfl ta0 (ci := 7) (k := 1) (by decide) (by decide) (by decide)
  obtain ⟨a_4, ea_4, hf⟩ := x_bind hf
  have Hc_ := H.cv ea_4 t_1 (by decide)
  obtain ⟨r_3, er_3, hf⟩ := x_bind hf
  obtain ⟨h_2, eh_2, H, E_, t_5⟩ := g9_ok H ea_4 t_1 er_3
  refine EX.bd Hc_ ?_
  refine EX.bd eh_2 ?_
  dsimp only
  replace ta0 := ta0.up E_
  replace t_1 := t_1.up E_
  replace E := E.tr E_
  by_cases c_6 : r_3.1 = none
  · replace hf := x_pos c_6 hf
    refine EX.pos c_6 ?_
    exact EX.uC E (gj71_68_ok H ta0 hf)
  · replace hf := x_neg c_6 hf
    refine EX.neg c_6 ?_
    have Hc_ := H.cv rfl ta0 (by decide)
    obtain ⟨C_8, eC_8, hf⟩ := x_bind hf
    obtain ⟨h_7, eh_7, H, E_⟩ := g62_ok H rfl ta0 eC_8
    refine EX.bd Hc_ ?_
    refine EX.bd eh_7 ?_
    replace ta0 := ta0.up E_
    replace t_1 := t_1.up E_
    replace E := E.tr E_
    exact EX.uC E (gj71_68_ok H ta0 hf)
theorem g71_ok {h : xH} {C : xC} {o0 : Option Nat} {a0 : Nat} {x1 : Int32} {x2 : Int32} {r : xC} (H : WH h C) (e0 : o0 = some a0) (ta0 : tR C o0 7) (hf : g71 a0 x1 x2 C = some r) : EX (fn71 o0 x1 x2 h) (fun z => z) (QC C r) := by
  subst e0
  have E := Ext.rfl' (C := C)
  unfold g71 at hf
  unfold fn71
  refine EX.bd (H.gR rfl ta0 (by decide) (by decide) (by decide)) ?_
  have t_1 := H.tyR rfl ta0 (ci := 7) (k := 2) (by decide) (by decide) (by decide)
  obtain ⟨a_4, ea_4, hf⟩ := x_bind hf
  have Hc_ := H.cv ea_4 t_1 (by decide)
  obtain ⟨r_3, er_3, hf⟩ := x_bind hf
  obtain ⟨h_2, eh_2, H, E_⟩ := g105_ok H ea_4 t_1 er_3
  refine EX.bd Hc_ ?_
  refine EX.bd eh_2 ?_
  dsimp only
  replace ta0 := ta0.up E_
  replace t_1 := t_1.up E_
  replace E := E.tr E_
  have Hc_ := H.cv rfl ta0 (by decide)
  obtain ⟨r_6, er_6, hf⟩ := x_bind hf
  obtain ⟨h_5, eh_5, H, E_⟩ := g70_ok H rfl ta0 er_6
  refine EX.bd Hc_ ?_
  refine EX.bd eh_5 ?_
  dsimp only
  replace ta0 := ta0.up E_
  replace t_1 := t_1.up E_
  replace E := E.tr E_
  by_cases c_7 : r_6.1 = (-1)
  · replace hf := x_pos c_7 hf
    refine EX.pos c_7 ?_
    have Hc_ := H.cv rfl ta0 (by decide)
    obtain ⟨C_9, eC_9, hf⟩ := x_bind hf
    obtain ⟨h_8, eh_8, H, E_⟩ := g62_ok H rfl ta0 eC_9
    refine EX.bd Hc_ ?_
    refine EX.bd eh_8 ?_
    replace ta0 := ta0.up E_
    replace t_1 := t_1.up E_
    replace E := E.tr E_
    obtain rfl := Option.some.inj hf
    exact ⟨_, rfl, H, E⟩
  · replace hf := x_neg c_7 hf
    refine EX.neg c_7 ?_
    by_cases c_10 : r_6.1 = 3
    · replace hf := x_pos c_10 hf
      refine EX.pos c_10 ?_
      exact EX.uC E (gj71_50_ok H ta0 hf)
    · replace hf := x_neg c_10 hf
      refine EX.neg c_10 ?_
      by_cases c_11 : r_6.1 = 6
      · replace hf := x_pos c_11 hf
        refine EX.pos c_11 ?_
        exact EX.uC E (gj71_50_ok H ta0 hf)
      · replace hf := x_neg c_11 hf
        refine EX.neg c_11 ?_
        exact EX.uC E (gj71_68_ok H ta0 hf)
end
section
theorem gj61_184_ok {h : xH} {C : xC} {a0 : Nat} {o1 : Option Nat} {x2 : Int32} {x3 : Int32} {r : xC} (H : WH h C) (ta0 : tR C (some a0) 7) (to1 : tR C o1 1) (hf : gj61_184 a0 o1 x2 x3 C = some r) : EX (j61_184 (some a0) o1 x2 x3 h) (fun z => z) (QC C r) := by
  have E := Ext.rfl' (C := C)
  unfold gj61_184 at hf
  unfold j61_184
  obtain rfl := Option.some.inj hf
  exact ⟨_, rfl, H, E⟩
theorem gj61_170_ok {k41 : Nat → Option Nat → Int32 → Int32 → xC → Option xC} {f41 : Option Nat → Option Nat → Int32 → Int32 → xH → Option xH} (hk41 : ∀ {h : xH} {C : xC} {a0 : Nat} {o1 : Option Nat} {x2 : Int32} {x3 : Int32} {r : xC}, WH h C → tR C (some a0) 7 → tR C o1 1 → k41 a0 o1 x2 x3 C = some r → EX (f41 (some a0) o1 x2 x3 h) (fun z => z) (QC C r)) {h : xH} {C : xC} {a0 : Nat} {o1 : Option Nat} {x2 : Int32} {x3 : Int32} {x4 : Int32} {x5 : Int32} {x6 : Int32} {s0 : Nat} {s1 : Int32} {r : xC} (H : WH h C) (ta0 : tR C (some a0) 7) (to1 : tR C o1 1) (ts0 : tR C (some s0) 7) (hf : gj61_170 k41 a0 o1 x2 x3 x4 x5 x6 s0 s1 C = some r) : EX (j61_170 f41 (some a0) o1 x2 x3 x4 x5 x6 (some s0) s1 h) (fun z => z) (QC C r) := by
  have E := Ext.rfl' (C := C)
  unfold gj61_170 at hf
  unfold j61_170
  by_cases c_3 : s1 &&& 1 = s1
  · replace hf := x_pos c_3 hf
    obtain ⟨C_1, eC_1, hf⟩ := x_bind hf
    obtain ⟨h_2, eh_2, H, E_⟩ := H.pI rfl ts0 (by decide) (by decide) rfl (xfit_b c_3) eC_1
    refine EX.bd eh_2 ?_
    replace to1 := to1.up E_
    replace ta0 := ta0.up E_
    replace ts0 := ts0.up E_
    replace E := E.tr E_
    exact EX.uC E (hk41 H ta0 to1 hf)
  · replace hf := x_neg c_3 hf
    cases hf
theorem gj61_159_ok {k41 : Nat → Option Nat → Int32 → Int32 → xC → Option xC} {f41 : Option Nat → Option Nat → Int32 → Int32 → xH → Option xH} (hk41 : ∀ {h : xH} {C : xC} {a0 : Nat} {o1 : Option Nat} {x2 : Int32} {x3 : Int32} {r : xC}, WH h C → tR C (some a0) 7 → tR C o1 1 → k41 a0 o1 x2 x3 C = some r → EX (f41 (some a0) o1 x2 x3 h) (fun z => z) (QC C r)) {h : xH} {C : xC} {a0 : Nat} {o1 : Option Nat} {x2 : Int32} {x3 : Int32} {x4 : Int32} {x5 : Int32} {x6 : Int32} {r : xC} (H : WH h C) (ta0 : tR C (some a0) 7) (to1 : tR C o1 1) (hf : gj61_159 k41 a0 o1 x2 x3 x4 x5 x6 C = some r) : EX (j61_159 f41 (some a0) o1 x2 x3 x4 x5 x6 h) (fun z => z) (QC C r) := by
  have E := Ext.rfl' (C := C)
  unfold gj61_159 at hf
  unfold j61_159
  by_cases c_1 : x6 = 0
  · replace hf := x_pos c_1 hf
    refine EX.pos c_1 ?_
    exact EX.uC E (gj61_170_ok (k41 := k41) (f41 := f41) hk41 H ta0 to1 ta0 hf)
  · replace hf := x_neg c_1 hf
    refine EX.neg c_1 ?_
    exact EX.uC E (gj61_170_ok (k41 := k41) (f41 := f41) hk41 H ta0 to1 ta0 hf)
theorem gl61_41_ok : ∀ (n : Nat) {h : xH} {C : xC} {a0 : Nat} {o1 : Option Nat} {x2 : Int32} {x3 : Int32} {r : xC} (H : WH h C) (ta0 : tR C (some a0) 7) (to1 : tR C o1 1), gl61_41 n a0 o1 x2 x3 C = some r → EX (l61_41 n (some a0) o1 x2 x3 h) (fun z => z) (QC C r) := by
  intro n
  induction n with
  | zero => intros; rename_i hf; cases hf
  | succ n ih =>
    intro h C a0 o1 x2 x3 r H ta0 to1 hf
    have E := Ext.rfl' (C := C)
    replace hf : ((if 600 ≤ x3 then gj61_184 a0 o1 x2 x3 C else (cR C a0 2).bind fun a_3 => (if (cI C a_3 1) ≤ x2 then gj61_184 a0 o1 x2 x3 C else (if (cI C a0 5) = 0 then (g105 a_3 10 x2 (cI C a_3 1) C).bind fun r_7 => (cR r_7.2 a0 2).bind fun a_11 => (g106 a_11 x2 r_7.1 r_7.2).bind fun r_10 => (g64 a0 r_10.1 r_7.1 r_10.2).bind fun r_13 => (if r_13.1 = 1 then (g71 a0 r_10.1 r_7.1 r_13.2).bind fun C_16 => gj61_159 (gl61_41 n) a0 o1 x2 x3 r_7.1 r_10.1 r_13.1 C_16 else (if r_13.1 = 2 then (g67 a0 r_10.1 r_7.1 (r_10.1 - x2) r_13.2).bind fun C_19 => gj61_159 (gl61_41 n) a0 o1 x2 x3 r_7.1 r_10.1 r_13.1 C_19 else (if r_13.1 = 3 then (g68 a0 r_10.1 r_7.1 r_13.2).bind fun C_22 => gj61_159 (gl61_41 n) a0 o1 x2 x3 r_7.1 r_10.1 r_13.1 C_22 else gj61_159 (gl61_41 n) a0 o1 x2 x3 r_7.1 r_10.1 r_13.1 r_13.2))) else gj61_184 a0 o1 x2 x3 C)))) = some r := hf
    unfold l61_41
    by_cases c_1 : 600 ≤ x3
    · replace hf := x_pos c_1 hf
      refine EX.pos c_1 ?_
      exact EX.uC E (gj61_184_ok H ta0 to1 hf)
    · replace hf := x_neg c_1 hf
      refine EX.neg c_1 ?_
      refine EX.bd (H.gR rfl ta0 (by decide) (by decide) (by decide)) ?_
      have t_2 := H.tyR rfl ta0 (ci := 7) (k := 2) (by decide) (by decide) (by decide)
      obtain ⟨a_3, ea_3, hf⟩ := x_bind hf
      refine EX.bd (H.gI ea_3 t_2 (by decide) (by decide) rfl) ?_
      by_cases c_4 : (cI C a_3 1) ≤ x2
      · replace hf := x_pos c_4 hf
        refine EX.pos c_4 ?_
        exact EX.uC E (gj61_184_ok H ta0 to1 hf)
      · replace hf := x_neg c_4 hf
        refine EX.neg c_4 ?_
        refine EX.bd (H.gI rfl ta0 (by decide) (by decide) rfl) ?_
        by_cases c_5 : (cI C a0 5) = 0
        · replace hf := x_pos c_5 hf
          refine EX.pos c_5 ?_
          refine EX.bd (H.gR rfl ta0 (by decide) (by decide) (by decide)) ?_
          refine EX.bd (H.gR rfl ta0 (by decide) (by decide) (by decide)) ?_
          refine EX.bd (H.gI ea_3 t_2 (by decide) (by decide) rfl) ?_
          have Hc_ := H.cv ea_3 t_2 (by decide)
          obtain ⟨r_7, er_7, hf⟩ := x_bind hf
          obtain ⟨h_6, eh_6, H, E_⟩ := g105_ok H ea_3 t_2 er_7
          refine EX.bd Hc_ ?_
          refine EX.bd eh_6 ?_
          dsimp only
          replace to1 := to1.up E_
          replace ta0 := ta0.up E_
          replace t_2 := t_2.up E_
          replace E := E.tr E_
          refine EX.bd (H.gR rfl ta0 (by decide) (by decide) (by decide)) ?_
          have t_8 := H.tyR rfl ta0 (ci := 7) (k := 2) (by decide) (by decide) (by decide)
          obtain ⟨a_11, ea_11, hf⟩ := x_bind hf
          have Hc_ := H.cv ea_11 t_8 (by decide)
          obtain ⟨r_10, er_10, hf⟩ := x_bind hf
          obtain ⟨h_9, eh_9, H, E_⟩ := g106_ok H ea_11 t_8 er_10
          refine EX.bd Hc_ ?_
          refine EX.bd eh_9 ?_
          dsimp only
          replace t_8 := t_8.up E_
          replace to1 := to1.up E_
          replace ta0 := ta0.up E_
          replace t_2 := t_2.up E_
          replace E := E.tr E_
          have Hc_ := H.cv rfl ta0 (by decide)
          obtain ⟨r_13, er_13, hf⟩ := x_bind hf
          obtain ⟨h_12, eh_12, H, E_⟩ := g64_ok H rfl ta0 er_13
          refine EX.bd Hc_ ?_
          refine EX.bd eh_12 ?_
          dsimp only
          replace t_8 := t_8.up E_
          replace to1 := to1.up E_
          replace ta0 := ta0.up E_
          replace t_2 := t_2.up E_
          replace E := E.tr E_
          by_cases c_14 : r_13.1 = 1
          · replace hf := x_pos c_14 hf
            refine EX.pos c_14 ?_
            have Hc_ := H.cv rfl ta0 (by decide)
            obtain ⟨C_16, eC_16, hf⟩ := x_bind hf
            obtain ⟨h_15, eh_15, H, E_⟩ := g71_ok H rfl ta0 eC_16
            refine EX.bd Hc_ ?_
            refine EX.bd eh_15 ?_
            replace t_8 := t_8.up E_
            replace to1 := to1.up E_
            replace ta0 := ta0.up E_
            replace t_2 := t_2.up E_
            replace E := E.tr E_
            exact EX.uC E (gj61_159_ok (k41 := (gl61_41 n)) (f41 := (l61_41 n)) ih H ta0 to1 hf)
          · replace hf := x_neg c_14 hf
            refine EX.neg c_14 ?_
            by_cases c_17 : r_13.1 = 2
            · replace hf := x_pos c_17 hf
              refine EX.pos c_17 ?_
              have Hc_ := H.cv rfl ta0 (by decide)
              obtain ⟨C_19, eC_19, hf⟩ := x_bind hf
              obtain ⟨h_18, eh_18, H, E_⟩ := g67_ok H rfl ta0 eC_19
              refine EX.bd Hc_ ?_
              refine EX.bd eh_18 ?_
              replace t_8 := t_8.up E_
              replace to1 := to1.up E_
              replace ta0 := ta0.up E_
              replace t_2 := t_2.up E_
              replace E := E.tr E_
              exact EX.uC E (gj61_159_ok (k41 := (gl61_41 n)) (f41 := (l61_41 n)) ih H ta0 to1 hf)
            · replace hf := x_neg c_17 hf
              refine EX.neg c_17 ?_
              by_cases c_20 : r_13.1 = 3
              · replace hf := x_pos c_20 hf
                refine EX.pos c_20 ?_
                have Hc_ := H.cv rfl ta0 (by decide)
                obtain ⟨C_22, eC_22, hf⟩ := x_bind hf
                obtain ⟨h_21, eh_21, H, E_⟩ := g68_ok H rfl ta0 eC_22
                refine EX.bd Hc_ ?_
                refine EX.bd eh_21 ?_
                replace t_8 := t_8.up E_
                replace to1 := to1.up E_
                replace ta0 := ta0.up E_
                replace t_2 := t_2.up E_
                replace E := E.tr E_
                exact EX.uC E (gj61_159_ok (k41 := (gl61_41 n)) (f41 := (l61_41 n)) ih H ta0 to1 hf)
              · replace hf := x_neg c_20 hf
                refine EX.neg c_20 ?_
                exact EX.uC E (gj61_159_ok (k41 := (gl61_41 n)) (f41 := (l61_41 n)) ih H ta0 to1 hf)
        · replace hf := x_neg c_5 hf
          refine EX.neg c_5 ?_
          exact EX.uC E (gj61_184_ok H ta0 to1 hf)
theorem g61_ok {h : xH} {C : xC} {o0 : Option Nat} {a0 : Nat} {o1 : Option Nat} {r : xC} (H : WH h C) (e0 : o0 = some a0) (ta0 : tR C o0 7) (to1 : tR C o1 1) (hf : g61 a0 o1 C = some r) : EX (fn61 o0 o1 h) (fun z => z) (QC C r) := by
  subst e0
  have E := Ext.rfl' (C := C)
  unfold g61 at hf
  unfold fn61
  obtain ⟨C_1, eC_1, hf⟩ := x_bind hf
  obtain ⟨h_2, eh_2, H, E_⟩ := H.pR (ci := 7) (k := 1) (ty := (.object "DocFormat$Comment")) rfl ta0 to1 (by decide) (by decide) (by decide) rfl rfl eC_1
  refine EX.bd eh_2 ?_
  replace to1 := to1.up E_
  replace ta0 := ta0.up E_
  replace E := E.tr E_
  obtain ⟨a_3, ea_3, hf⟩ := x_bind hf
  refine EX.bd (H.gR ea_3 to1 (by decide) (by decide) (by decide)) ?_
  have t_4 := H.tyR ea_3 to1 (ci := 1) (k := 0) (by decide) (by decide) (by decide)
  obtain ⟨C_5, eC_5, hf⟩ := x_bind hf
  obtain ⟨h_6, eh_6, H, E_⟩ := H.pR (ci := 7) (k := 2) (ty := (.object "DocFormat$Text")) rfl ta0 t_4 (by decide) (by decide) (by decide) rfl rfl eC_5
  refine EX.bd eh_6 ?_
  replace to1 := to1.up E_
  replace ta0 := ta0.up E_
  replace E := E.tr E_
  obtain ⟨C_7, eC_7, hf⟩ := x_bind hf
  obtain ⟨h_8, eh_8, H, E_⟩ := H.pR (ci := 7) (k := 3) (ty := (.object "DocFormat$Block")) rfl ta0 tR_none (by decide) (by decide) (by decide) rfl rfl eC_7
  refine EX.bd eh_8 ?_
  replace to1 := to1.up E_
  replace ta0 := ta0.up E_
  replace E := E.tr E_
  obtain ⟨C_9, eC_9, hf⟩ := x_bind hf
  obtain ⟨h_10, eh_10, H, E_⟩ := H.pI rfl ta0 (by decide) (by decide) rfl (show xfit .boolean (.int 1) = true by decide) eC_9
  refine EX.bd eh_10 ?_
  replace to1 := to1.up E_
  replace ta0 := ta0.up E_
  replace E := E.tr E_
  obtain ⟨C_11, eC_11, hf⟩ := x_bind hf
  obtain ⟨h_12, eh_12, H, E_⟩ := H.pI rfl ta0 (by decide) (by decide) rfl (xfit_int _) eC_11
  refine EX.bd eh_12 ?_
  replace to1 := to1.up E_
  replace ta0 := ta0.up E_
  replace E := E.tr E_
  obtain ⟨C_13, eC_13, hf⟩ := x_bind hf
  obtain ⟨h_14, eh_14, H, E_⟩ := H.pI rfl ta0 (by decide) (by decide) rfl (xfit_int _) eC_13
  refine EX.bd eh_14 ?_
  replace to1 := to1.up E_
  replace ta0 := ta0.up E_
  replace E := E.tr E_
  have Hc_ := H.cv rfl ta0 (by decide)
  obtain ⟨C_16, eC_16, hf⟩ := x_bind hf
  obtain ⟨h_15, eh_15, H, E_⟩ := g63_ok H rfl ta0 eC_16
  refine EX.bd Hc_ ?_
  refine EX.bd eh_15 ?_
  replace to1 := to1.up E_
  replace ta0 := ta0.up E_
  replace E := E.tr E_
  exact EX.uC E (gl61_41_ok xFuel H ta0 to1 hf)
end
section
theorem g81_ok {h : xH} {C : xC} {o0 : Option Nat} {a0 : Nat} {r : xC} (H : WH h C) (e0 : o0 = some a0) (ta0 : tR C o0 8) (hf : g81 a0 C = some r) : EX (fn81 o0 h) (fun z => z) (QC C r) := by
  subst e0
  have E := Ext.rfl' (C := C)
  unfold g81 at hf
  unfold fn81
  refine EX.bdS ?_
  obtain ⟨C_1, eC_1, hf⟩ := x_bind hf
  obtain ⟨h_2, eh_2, N_, t_3, H, E_⟩ := H.nAR (tg := 16) (by decide) (by decide) eC_1
  refine EX.bd eh_2 ?_
  rw [N_]
  replace ta0 := ta0.up E_
  replace E := E.tr E_
  obtain ⟨C_4, eC_4, hf⟩ := x_bind hf
  obtain ⟨h_5, eh_5, H, E_⟩ := H.pR (ci := 8) (k := 0) (ty := (.array (.object "DocFormat$Entry"))) rfl ta0 t_3 (by decide) (by decide) (by decide) rfl rfl eC_4
  refine EX.bd eh_5 ?_
  replace t_3 := t_3.up E_
  replace ta0 := ta0.up E_
  replace E := E.tr E_
  obtain rfl := Option.some.inj hf
  exact ⟨_, rfl, H, E⟩
end
section
theorem g82_ok {h : xH} {C : xC} {o0 : Option Nat} {a0 : Nat} {o1 : Option Nat} {o2 : Option Nat} {x3 : Int32} {o4 : Option Nat} {r : (Int32 × xC)} (H : WH h C) (e0 : o0 = some a0) (ta0 : tR C o0 8) (to1 : tR C o1 2) (to2 : tR C o2 2) (to4 : tR C o4 9) (hf : g82 a0 o1 o2 x3 o4 C = some r) : EX (fn82 o0 o1 o2 x3 o4 h) (fun z => (r.1, z)) (QC C r.2) := by
  subst e0
  have E := Ext.rfl' (C := C)
  unfold g82 at hf
  unfold fn82
  refine EX.bd (H.gI rfl ta0 (by decide) (by decide) rfl) ?_
  refine EX.bd (H.gR rfl ta0 (by decide) (by decide) (by decide)) ?_
  have t_1 := H.tyR rfl ta0 (ci := 8) (k := 0) (by decide) (by decide) (by decide)
  obtain ⟨a_2, ea_2, hf⟩ := x_bind hf
  refine EX.bd (H.len ea_2 t_1 (by decide) (by decide)) ?_
  by_cases c_3 : (cI C a0 1) < (Int32.ofNat (cK C a_2).2)
  · replace hf := x_pos c_3 hf
    refine EX.pos c_3 ?_
    obtain ⟨C_4, eC_4, hf⟩ := x_bind hf
    obtain ⟨h_5, eh_5, N_, t_6, H, E_⟩ := H.new (ci := 2) (fs := [.int 0, .null, .null, .null, .int 0, .null, .int 0, .null, .int 0]) (by decide) rfl eC_4
    refine EX.bd eh_5 ?_
    rw [N_]
    replace to4 := to4.up E_
    replace ta0 := ta0.up E_
    replace to2 := to2.up E_
    replace t_1 := t_1.up E_
    replace to1 := to1.up E_
    replace E := E.tr E_
    refine EX.bd (H.gI rfl ta0 (by decide) (by decide) rfl) ?_
    have Hc_ := H.cv rfl t_6 (by decide)
    obtain ⟨C_8, eC_8, hf⟩ := x_bind hf
    obtain ⟨h_7, eh_7, H, E_⟩ := g11_ok H rfl t_6 to1 to2 eC_8
    refine EX.bd Hc_ ?_
    refine EX.bd eh_7 ?_
    replace t_6 := t_6.up E_
    replace to4 := to4.up E_
    replace ta0 := ta0.up E_
    replace to2 := to2.up E_
    replace t_1 := t_1.up E_
    replace to1 := to1.up E_
    replace E := E.tr E_
    refine EX.bd (H.gR rfl t_6 (by decide) (by decide) (by decide)) ?_
    have t_9 := H.tyR rfl t_6 (ci := 2) (k := 1) (by decide) (by decide) (by decide)
    obtain ⟨a_12, ea_12, hf⟩ := x_bind hf
    have Hc_ := H.cv ea_12 t_9 (by decide)
    obtain ⟨C_11, eC_11, hf⟩ := x_bind hf
    obtain ⟨h_10, eh_10, H, E_⟩ := g102_ok H ea_12 t_9 to4 eC_11
    refine EX.bd Hc_ ?_
    refine EX.bd eh_10 ?_
    replace t_6 := t_6.up E_
    replace to4 := to4.up E_
    replace t_9 := t_9.up E_
    replace ta0 := ta0.up E_
    replace to2 := to2.up E_
    replace t_1 := t_1.up E_
    replace to1 := to1.up E_
    replace E := E.tr E_
    refine EX.bd (H.gR rfl ta0 (by decide) (by decide) (by decide)) ?_
    have t_13 := H.tyR rfl ta0 (ci := 8) (k := 0) (by decide) (by decide) (by decide)
    refine EX.bd (H.gI rfl ta0 (by decide) (by decide) rfl) ?_
    obtain ⟨a_16, ea_16, hf⟩ := x_bind hf
    obtain ⟨C_14, eC_14, hf⟩ := x_bind hf
    obtain ⟨h_15, eh_15, H, E_⟩ := H.sR ea_16 t_13 (tg := 16) (by decide) (by decide) t_6 eC_14
    refine EX.bd eh_15 ?_
    replace t_6 := t_6.up E_
    replace to4 := to4.up E_
    replace t_9 := t_9.up E_
    replace ta0 := ta0.up E_
    replace to2 := to2.up E_
    replace t_1 := t_1.up E_
    replace to1 := to1.up E_
    replace t_13 := t_13.up E_
    replace E := E.tr E_
    refine EX.bd (H.gI rfl ta0 (by decide) (by decide) rfl) ?_
    obtain ⟨C_17, eC_17, hf⟩ := x_bind hf
    obtain ⟨h_18, eh_18, H, E_⟩ := H.pI rfl ta0 (by decide) (by decide) rfl (xfit_int _) eC_17
    refine EX.bd eh_18 ?_
    replace t_6 := t_6.up E_
    replace to4 := to4.up E_
    replace t_9 := t_9.up E_
    replace ta0 := ta0.up E_
    replace to2 := to2.up E_
    replace t_1 := t_1.up E_
    replace to1 := to1.up E_
    replace t_13 := t_13.up E_
    replace E := E.tr E_
    refine EX.bd (H.gI rfl t_6 (by decide) (by decide) rfl) ?_
    obtain rfl := Option.some.inj hf
    exact ⟨_, rfl, H, E⟩
  · replace hf := x_neg c_3 hf
    refine EX.neg c_3 ?_
    obtain rfl := Option.some.inj hf
    exact ⟨_, rfl, H, E⟩
end
section
theorem gj83_22_ok {h : xH} {C : xC} {a0 : Nat} {x1 : Int32} {s0 : Option Nat} {r : (Option Nat × xC)} (H : WH h C) (ta0 : tR C (some a0) 8) (ts0 : tR C s0 2) (hf : gj83_22 a0 x1 s0 C = some r) : EX (j83_22 (some a0) x1 s0 h) (fun z => (r.1, z)) (QR 2 C r) := by
  have E := Ext.rfl' (C := C)
  unfold gj83_22 at hf
  unfold j83_22
  obtain rfl := Option.some.inj hf
  exact ⟨_, rfl, H, E, ts0⟩
theorem gj83_12_ok {h : xH} {C : xC} {a0 : Nat} {x1 : Int32} {r : (Option Nat × xC)} (H : WH h C) (ta0 : tR C (some a0) 8) (hf : gj83_12 a0 x1 C = some r) : EX (j83_12 (some a0) x1 h) (fun z => (r.1, z)) (QR 2 C r) := by
  have E := Ext.rfl' (C := C)
  unfold gj83_12 at hf
  unfold j83_12
  exact EX.uR E (gj83_22_ok H ta0 tR_none hf)
theorem g83_ok {h : xH} {C : xC} {o0 : Option Nat} {a0 : Nat} {x1 : Int32} {r : (Option Nat × xC)} (H : WH h C) (e0 : o0 = some a0) (ta0 : tR C o0 8) (hf : g83 a0 x1 C = some r) : EX (fn83 o0 x1 h) (fun z => (r.1, z)) (QR 2 C r) := by
  subst e0
  have E := Ext.rfl' (C := C)
  unfold g83 at hf
  unfold fn83
  by_cases c_1 : x1 < 0
  · replace hf := x_pos c_1 hf
    refine EX.pos c_1 ?_
    exact EX.uR E (gj83_12_ok H ta0 hf)
  · replace hf := x_neg c_1 hf
    refine EX.neg c_1 ?_
    refine EX.bd (H.gI rfl ta0 (by decide) (by decide) rfl) ?_
    by_cases c_2 : x1 < (cI C a0 1)
    · replace hf := x_pos c_2 hf
      refine EX.pos c_2 ?_
      refine EX.bd (H.gR rfl ta0 (by decide) (by decide) (by decide)) ?_
      have t_3 := H.tyR rfl ta0 (ci := 8) (k := 0) (by decide) (by decide) (by decide)
      obtain ⟨a_5, ea_5, hf⟩ := x_bind hf
      obtain ⟨o_4, eo_4, hf⟩ := x_bind hf
      refine EX.bd (H.lR ea_5 t_3 (by decide) (by decide) eo_4) ?_
      have t_6 := H.tL ea_5 t_3 (ci := 16) (by decide) (by decide) eo_4
      exact EX.uR E (gj83_22_ok H ta0 t_6 hf)
    · replace hf := x_neg c_2 hf
      refine EX.neg c_2 ?_
      exact EX.uR E (gj83_12_ok H ta0 hf)
end
section
theorem gj84_22_ok {h : xH} {C : xC} {a0 : Nat} {x1 : Int32} {o2 : Option Nat} {s0 : Option Nat} {r : (Option Nat × xC)} (H : WH h C) (ta0 : tR C (some a0) 8) (to2 : tR C o2 2) (ts0 : tR C s0 2) (hf : gj84_22 a0 x1 o2 s0 C = some r) : EX (j84_22 (some a0) x1 o2 s0 h) (fun z => (r.1, z)) (QR 2 C r) := by
  have E := Ext.rfl' (C := C)
  unfold gj84_22 at hf
  unfold j84_22
  obtain rfl := Option.some.inj hf
  exact ⟨_, rfl, H, E, ts0⟩
theorem gj84_21_ok {h : xH} {C : xC} {a0 : Nat} {x1 : Int32} {o2 : Option Nat} {r : (Option Nat × xC)} (H : WH h C) (ta0 : tR C (some a0) 8) (to2 : tR C o2 2) (hf : gj84_21 a0 x1 o2 C = some r) : EX (j84_21 (some a0) x1 o2 h) (fun z => (r.1, z)) (QR 2 C r) := by
  have E := Ext.rfl' (C := C)
  unfold gj84_21 at hf
  unfold j84_21
  exact EX.uR E (gj84_22_ok H ta0 to2 tR_none hf)
theorem g84_ok {h : xH} {C : xC} {o0 : Option Nat} {a0 : Nat} {x1 : Int32} {r : (Option Nat × xC)} (H : WH h C) (e0 : o0 = some a0) (ta0 : tR C o0 8) (hf : g84 a0 x1 C = some r) : EX (fn84 o0 x1 h) (fun z => (r.1, z)) (QR 2 C r) := by
  subst e0
  have E := Ext.rfl' (C := C)
  unfold g84 at hf
  unfold fn84
  have Hc_ := H.cv rfl ta0 (by decide)
  obtain ⟨r_2, er_2, hf⟩ := x_bind hf
  obtain ⟨h_1, eh_1, H, E_, t_3⟩ := g83_ok H rfl ta0 er_2
  refine EX.bd Hc_ ?_
  refine EX.bd eh_1 ?_
  dsimp only
  replace ta0 := ta0.up E_
  replace E := E.tr E_
  by_cases c_4 : r_2.1 = none
  · replace hf := x_pos c_4 hf
    refine EX.pos c_4 ?_
    exact EX.uR E (gj84_21_ok H ta0 t_3 hf)
  · replace hf := x_neg c_4 hf
    refine EX.neg c_4 ?_
    obtain ⟨a_7, ea_7, hf⟩ := x_bind hf
    have Hc_ := H.cv ea_7 t_3 (by decide)
    obtain ⟨r_6, er_6, hf⟩ := x_bind hf
    obtain ⟨h_5, eh_5, H, E_⟩ := g12_ok H ea_7 t_3 er_6
    refine EX.bd Hc_ ?_
    refine EX.bd eh_5 ?_
    dsimp only
    replace t_3 := t_3.up E_
    replace ta0 := ta0.up E_
    replace E := E.tr E_
    by_cases c_8 : r_6.1 = 0
    · replace hf := x_pos c_8 hf
      refine EX.pos c_8 ?_
      exact EX.uR E (gj84_21_ok H ta0 t_3 hf)
    · replace hf := x_neg c_8 hf
      refine EX.neg c_8 ?_
      exact EX.uR E (gj84_22_ok H ta0 t_3 t_3 hf)
end
section
theorem gj85_23_ok {k4 : Nat → Int32 → Int32 → xC → Option (Int32 × xC)} {f4 : Option Nat → Int32 → Int32 → xH → Option (Int32 × xH)} (hk4 : ∀ {h : xH} {C : xC} {a0 : Nat} {x1 : Int32} {x2 : Int32} {r : (Int32 × xC)}, WH h C → tR C (some a0) 8 → k4 a0 x1 x2 C = some r → EX (f4 (some a0) x1 x2 h) (fun z => (r.1, z)) (QC C r.2)) {h : xH} {C : xC} {a0 : Nat} {x1 : Int32} {x2 : Int32} {r : (Int32 × xC)} (H : WH h C) (ta0 : tR C (some a0) 8) (hf : gj85_23 k4 a0 x1 x2 C = some r) : EX (j85_23 f4 (some a0) x1 x2 h) (fun z => (r.1, z)) (QC C r.2) := by
  have E := Ext.rfl' (C := C)
  unfold gj85_23 at hf
  unfold j85_23
  exact EX.uC E (hk4 H ta0 hf)
theorem gl85_4_ok : ∀ (n : Nat) {h : xH} {C : xC} {a0 : Nat} {x1 : Int32} {x2 : Int32} {r : (Int32 × xC)} (H : WH h C) (ta0 : tR C (some a0) 8), gl85_4 n a0 x1 x2 C = some r → EX (l85_4 n (some a0) x1 x2 h) (fun z => (r.1, z)) (QC C r.2) := by
  intro n
  induction n with
  | zero => intros; rename_i hf; cases hf
  | succ n ih =>
    intro h C a0 x1 x2 r H ta0 hf
    have E := Ext.rfl' (C := C)
    replace hf : ((if (cI C a0 1) ≤ x2 then some (x1, C) else (g84 a0 x2 C).bind fun r_3 => (if r_3.1 = none then gj85_23 (gl85_4 n) a0 x1 x2 r_3.2 else gj85_23 (gl85_4 n) a0 (x1 + 1) x2 r_3.2))) = some r := hf
    unfold l85_4
    refine EX.bd (H.gI rfl ta0 (by decide) (by decide) rfl) ?_
    by_cases c_1 : (cI C a0 1) ≤ x2
    · replace hf := x_pos c_1 hf
      refine EX.pos c_1 ?_
      obtain rfl := Option.some.inj hf
      exact ⟨_, rfl, H, E⟩
    · replace hf := x_neg c_1 hf
      refine EX.neg c_1 ?_
      have Hc_ := H.cv rfl ta0 (by decide)
      obtain ⟨r_3, er_3, hf⟩ := x_bind hf
      obtain ⟨h_2, eh_2, H, E_, t_4⟩ := g84_ok H rfl ta0 er_3
      refine EX.bd Hc_ ?_
      refine EX.bd eh_2 ?_
      dsimp only
      replace ta0 := ta0.up E_
      replace E := E.tr E_
      by_cases c_5 : r_3.1 = none
      · replace hf := x_pos c_5 hf
        refine EX.pos c_5 ?_
        exact EX.uC E (gj85_23_ok (k4 := (gl85_4 n)) (f4 := (l85_4 n)) ih H ta0 hf)
      · replace hf := x_neg c_5 hf
        refine EX.neg c_5 ?_
        exact EX.uC E (gj85_23_ok (k4 := (gl85_4 n)) (f4 := (l85_4 n)) ih H ta0 hf)
theorem g85_ok {h : xH} {C : xC} {o0 : Option Nat} {a0 : Nat} {r : (Int32 × xC)} (H : WH h C) (e0 : o0 = some a0) (ta0 : tR C o0 8) (hf : g85 a0 C = some r) : EX (fn85 o0 h) (fun z => (r.1, z)) (QC C r.2) := by
  subst e0
  have E := Ext.rfl' (C := C)
  unfold g85 at hf
  unfold fn85
  exact EX.uC E (gl85_4_ok xFuel H ta0 hf)
end
section
theorem gj86_32_ok {k4 : Nat → Int32 → Int32 → xC → Option (Int32 × xC)} {f4 : Option Nat → Int32 → Int32 → xH → Option (Int32 × xH)} (hk4 : ∀ {h : xH} {C : xC} {a0 : Nat} {x1 : Int32} {x2 : Int32} {r : (Int32 × xC)}, WH h C → tR C (some a0) 8 → k4 a0 x1 x2 C = some r → EX (f4 (some a0) x1 x2 h) (fun z => (r.1, z)) (QC C r.2)) {h : xH} {C : xC} {a0 : Nat} {x1 : Int32} {x2 : Int32} {o3 : Option Nat} {r : (Int32 × xC)} (H : WH h C) (ta0 : tR C (some a0) 8) (to3 : tR C o3 2) (hf : gj86_32 k4 a0 x1 x2 o3 C = some r) : EX (j86_32 f4 (some a0) x1 x2 o3 h) (fun z => (r.1, z)) (QC C r.2) := by
  have E := Ext.rfl' (C := C)
  unfold gj86_32 at hf
  unfold j86_32
  exact EX.uC E (hk4 H ta0 hf)
theorem gl86_4_ok : ∀ (n : Nat) {h : xH} {C : xC} {a0 : Nat} {x1 : Int32} {x2 : Int32} {r : (Int32 × xC)} (H : WH h C) (ta0 : tR C (some a0) 8), gl86_4 n a0 x1 x2 C = some r → EX (l86_4 n (some a0) x1 x2 h) (fun z => (r.1, z)) (QC C r.2) := by
  intro n
  induction n with
  | zero => intros; rename_i hf; cases hf
  | succ n ih =>
    intro h C a0 x1 x2 r H ta0 hf
    have E := Ext.rfl' (C := C)
    replace hf : ((if (cI C a0 1) ≤ x2 then some (x1, C) else (g83 a0 x2 C).bind fun r_3 => (if r_3.1 = none then gj86_32 (gl86_4 n) a0 x1 x2 r_3.1 r_3.2 else (r_3.1).bind fun a_6 => (if (cI r_3.2 a_6 8) = 0 then gj86_32 (gl86_4 n) a0 x1 x2 r_3.1 r_3.2 else gj86_32 (gl86_4 n) a0 (x1 + 1) x2 r_3.1 r_3.2)))) = some r := hf
    unfold l86_4
    refine EX.bd (H.gI rfl ta0 (by decide) (by decide) rfl) ?_
    by_cases c_1 : (cI C a0 1) ≤ x2
    · replace hf := x_pos c_1 hf
      refine EX.pos c_1 ?_
      obtain rfl := Option.some.inj hf
      exact ⟨_, rfl, H, E⟩
    · replace hf := x_neg c_1 hf
      refine EX.neg c_1 ?_
      have Hc_ := H.cv rfl ta0 (by decide)
      obtain ⟨r_3, er_3, hf⟩ := x_bind hf
      obtain ⟨h_2, eh_2, H, E_, t_4⟩ := g83_ok H rfl ta0 er_3
      refine EX.bd Hc_ ?_
      refine EX.bd eh_2 ?_
      dsimp only
      replace ta0 := ta0.up E_
      replace E := E.tr E_
      by_cases c_5 : r_3.1 = none
      · replace hf := x_pos c_5 hf
        refine EX.pos c_5 ?_
        exact EX.uC E (gj86_32_ok (k4 := (gl86_4 n)) (f4 := (l86_4 n)) ih H ta0 t_4 hf)
      · replace hf := x_neg c_5 hf
        refine EX.neg c_5 ?_
        obtain ⟨a_6, ea_6, hf⟩ := x_bind hf
        refine EX.bd (H.gI ea_6 t_4 (by decide) (by decide) rfl) ?_
        by_cases c_7 : (cI r_3.2 a_6 8) = 0
        · replace hf := x_pos c_7 hf
          refine EX.pos c_7 ?_
          exact EX.uC E (gj86_32_ok (k4 := (gl86_4 n)) (f4 := (l86_4 n)) ih H ta0 t_4 hf)
        · replace hf := x_neg c_7 hf
          refine EX.neg c_7 ?_
          exact EX.uC E (gj86_32_ok (k4 := (gl86_4 n)) (f4 := (l86_4 n)) ih H ta0 t_4 hf)
theorem g86_ok {h : xH} {C : xC} {o0 : Option Nat} {a0 : Nat} {r : (Int32 × xC)} (H : WH h C) (e0 : o0 = some a0) (ta0 : tR C o0 8) (hf : g86 a0 C = some r) : EX (fn86 o0 h) (fun z => (r.1, z)) (QC C r.2) := by
  subst e0
  have E := Ext.rfl' (C := C)
  unfold g86 at hf
  unfold fn86
  exact EX.uC E (gl86_4_ok xFuel H ta0 hf)
end
section
theorem gl98_3_ok : ∀ (n : Nat) {h : xH} {C : xC} {a0 : Nat} {x1 : Int32} {x2 : Int32} {r : xC} (H : WH h C) (ta0 : tR C (some a0) 9), gl98_3 n a0 x1 x2 C = some r → EX (l98_3 n (some a0) x1 x2 h) (fun z => z) (QC C r) := by
  intro n
  induction n with
  | zero => intros; rename_i hf; cases hf
  | succ n ih =>
    intro h C a0 x1 x2 r H ta0 hf
    have E := Ext.rfl' (C := C)
    replace hf : ((if x2 < 0 then some C else (g97 a0 (xush x1 x2) C).bind fun r_3 => gl98_3 n a0 x1 (x2 + (-8)) r_3.2)) = some r := hf
    unfold l98_3
    by_cases c_1 : x2 < 0
    · replace hf := x_pos c_1 hf
      refine EX.pos c_1 ?_
      obtain rfl := Option.some.inj hf
      exact ⟨_, rfl, H, E⟩
    · replace hf := x_neg c_1 hf
      refine EX.neg c_1 ?_
      have Hc_ := H.cv rfl ta0 (by decide)
      obtain ⟨r_3, er_3, hf⟩ := x_bind hf
      obtain ⟨h_2, eh_2, H, E_⟩ := g97_ok H rfl ta0 er_3
      refine EX.bd Hc_ ?_
      refine EX.bd eh_2 ?_
      dsimp only
      replace ta0 := ta0.up E_
      replace E := E.tr E_
      exact EX.uC E (ih H ta0 hf)
theorem g98_ok {h : xH} {C : xC} {o0 : Option Nat} {a0 : Nat} {x1 : Int32} {r : xC} (H : WH h C) (e0 : o0 = some a0) (ta0 : tR C o0 9) (hf : g98 a0 x1 C = some r) : EX (fn98 o0 x1 h) (fun z => z) (QC C r) := by
  subst e0
  have E := Ext.rfl' (C := C)
  unfold g98 at hf
  unfold fn98
  exact EX.uC E (gl98_3_ok xFuel H ta0 hf)
end
section
theorem gj108_30_ok {h : xH} {C : xC} {a0 : Nat} {x1 : Int32} {x2 : Int32} {s0 : Int32} {r : (Int32 × xC)} (H : WH h C) (ta0 : tR C (some a0) 9) (hf : gj108_30 a0 x1 x2 s0 C = some r) : EX (j108_30 (some a0) x1 x2 s0 h) (fun z => (r.1, z)) (QC C r.2) := by
  have E := Ext.rfl' (C := C)
  unfold gj108_30 at hf
  unfold j108_30
  by_cases c_1 : s0 &&& 1 = s0
  · replace hf := x_pos c_1 hf
    refine EX.pos c_1 ?_
    obtain rfl := Option.some.inj hf
    exact ⟨_, rfl, H, E⟩
  · replace hf := x_neg c_1 hf
    cases hf
theorem gj108_29_ok {h : xH} {C : xC} {a0 : Nat} {x1 : Int32} {x2 : Int32} {r : (Int32 × xC)} (H : WH h C) (ta0 : tR C (some a0) 9) (hf : gj108_29 a0 x1 x2 C = some r) : EX (j108_29 (some a0) x1 x2 h) (fun z => (r.1, z)) (QC C r.2) := by
  have E := Ext.rfl' (C := C)
  unfold gj108_29 at hf
  unfold j108_29
  exact EX.uC E (gj108_30_ok H ta0 hf)
theorem g108_ok {h : xH} {C : xC} {o0 : Option Nat} {a0 : Nat} {x1 : Int32} {x2 : Int32} {r : (Int32 × xC)} (H : WH h C) (e0 : o0 = some a0) (ta0 : tR C o0 9) (hf : g108 a0 x1 x2 C = some r) : EX (fn108 o0 x1 x2 h) (fun z => (r.1, z)) (QC C r.2) := by
  subst e0
  have E := Ext.rfl' (C := C)
  unfold g108 at hf
  unfold fn108
  refine EX.bd (H.gI rfl ta0 (by decide) (by decide) rfl) ?_
  have Hc_ := H.cv rfl ta0 (by decide)
  obtain ⟨r_2, er_2, hf⟩ := x_bind hf
  obtain ⟨h_1, eh_1, H, E_⟩ := g107_ok H rfl ta0 er_2
  refine EX.bd Hc_ ?_
  refine EX.bd eh_1 ?_
  dsimp only
  replace ta0 := ta0.up E_
  replace E := E.tr E_
  by_cases c_3 : r_2.1 = 0
  · replace hf := x_pos c_3 hf
    refine EX.pos c_3 ?_
    exact EX.uC E (gj108_29_ok H ta0 hf)
  · replace hf := x_neg c_3 hf
    refine EX.neg c_3 ?_
    have Hc_ := H.cv rfl ta0 (by decide)
    obtain ⟨r_5, er_5, hf⟩ := x_bind hf
    obtain ⟨h_4, eh_4, H, E_⟩ := g96_ok H rfl ta0 er_5
    refine EX.bd Hc_ ?_
    refine EX.bd eh_4 ?_
    dsimp only
    replace ta0 := ta0.up E_
    replace E := E.tr E_
    obtain ⟨r_7, er_7, hf⟩ := x_bind hf
    obtain ⟨h_6, eh_6, H, E_⟩ := g135_ok H er_7
    refine EX.bd eh_6 ?_
    dsimp only
    replace ta0 := ta0.up E_
    replace E := E.tr E_
    by_cases c_8 : r_7.1 = 0
    · replace hf := x_pos c_8 hf
      refine EX.pos c_8 ?_
      exact EX.uC E (gj108_29_ok H ta0 hf)
    · replace hf := x_neg c_8 hf
      refine EX.neg c_8 ?_
      exact EX.uC E (gj108_30_ok H ta0 hf)
end
section
theorem g111_ok {h : xH} {C : xC} {o0 : Option Nat} {a0 : Nat} {r : xC} (H : WH h C) (e0 : o0 = some a0) (ta0 : tR C o0 10) (hf : g111 a0 C = some r) : EX (fn111 o0 h) (fun z => z) (QC C r) := by
  subst e0
  have E := Ext.rfl' (C := C)
  unfold g111 at hf
  unfold fn111
  refine EX.bdS ?_
  obtain ⟨C_1, eC_1, hf⟩ := x_bind hf
  obtain ⟨h_2, eh_2, N_, t_3, H, E_⟩ := H.new (ci := 9) (fs := [.null, .int 0]) (by decide) rfl eC_1
  refine EX.bd eh_2 ?_
  rw [N_]
  replace ta0 := ta0.up E_
  replace E := E.tr E_
  have Hc_ := H.cv rfl t_3 (by decide)
  obtain ⟨C_5, eC_5, hf⟩ := x_bind hf
  obtain ⟨h_4, eh_4, H, E_⟩ := g95_ok H rfl t_3 eC_5
  refine EX.bd Hc_ ?_
  refine EX.bd eh_4 ?_
  replace t_3 := t_3.up E_
  replace ta0 := ta0.up E_
  replace E := E.tr E_
  obtain ⟨C_6, eC_6, hf⟩ := x_bind hf
  obtain ⟨h_7, eh_7, H, E_⟩ := H.pR (ci := 10) (k := 0) (ty := (.object "DocFormat$Text")) rfl ta0 t_3 (by decide) (by decide) (by decide) rfl rfl eC_6
  refine EX.bd eh_7 ?_
  replace t_3 := t_3.up E_
  replace ta0 := ta0.up E_
  replace E := E.tr E_
  obtain ⟨C_8, eC_8, hf⟩ := x_bind hf
  obtain ⟨h_9, eh_9, N_, t_10, H, E_⟩ := H.new (ci := 8) (fs := [.null, .int 0]) (by decide) rfl eC_8
  refine EX.bd eh_9 ?_
  rw [N_]
  replace t_3 := t_3.up E_
  replace ta0 := ta0.up E_
  replace E := E.tr E_
  have Hc_ := H.cv rfl t_10 (by decide)
  obtain ⟨C_12, eC_12, hf⟩ := x_bind hf
  obtain ⟨h_11, eh_11, H, E_⟩ := g81_ok H rfl t_10 eC_12
  refine EX.bd Hc_ ?_
  refine EX.bd eh_11 ?_
  replace t_10 := t_10.up E_
  replace t_3 := t_3.up E_
  replace ta0 := ta0.up E_
  replace E := E.tr E_
  obtain ⟨C_13, eC_13, hf⟩ := x_bind hf
  obtain ⟨h_14, eh_14, H, E_⟩ := H.pR (ci := 10) (k := 1) (ty := (.object "DocFormat$Register")) rfl ta0 t_10 (by decide) (by decide) (by decide) rfl rfl eC_13
  refine EX.bd eh_14 ?_
  replace t_10 := t_10.up E_
  replace t_3 := t_3.up E_
  replace ta0 := ta0.up E_
  replace E := E.tr E_
  obtain ⟨C_15, eC_15, hf⟩ := x_bind hf
  obtain ⟨h_16, eh_16, N_, t_17, H, E_⟩ := H.new (ci := 7) (fs := [.null, .null, .null, .null, .int 0, .int 0, .int 0]) (by decide) rfl eC_15
  refine EX.bd eh_16 ?_
  rw [N_]
  replace t_10 := t_10.up E_
  replace t_3 := t_3.up E_
  replace ta0 := ta0.up E_
  replace E := E.tr E_
  have Hc_ := H.cv rfl t_17 (by decide)
  obtain ⟨C_19, eC_19, hf⟩ := x_bind hf
  obtain ⟨h_18, eh_18, H, E_⟩ := g60_ok H rfl t_17 eC_19
  refine EX.bd Hc_ ?_
  refine EX.bd eh_18 ?_
  replace t_10 := t_10.up E_
  replace t_3 := t_3.up E_
  replace ta0 := ta0.up E_
  replace t_17 := t_17.up E_
  replace E := E.tr E_
  obtain ⟨C_20, eC_20, hf⟩ := x_bind hf
  obtain ⟨h_21, eh_21, H, E_⟩ := H.pR (ci := 10) (k := 2) (ty := (.object "DocFormat$Reader")) rfl ta0 t_17 (by decide) (by decide) (by decide) rfl rfl eC_20
  refine EX.bd eh_21 ?_
  replace t_10 := t_10.up E_
  replace t_3 := t_3.up E_
  replace ta0 := ta0.up E_
  replace t_17 := t_17.up E_
  replace E := E.tr E_
  obtain ⟨C_22, eC_22, hf⟩ := x_bind hf
  obtain ⟨h_23, eh_23, N_, t_24, H, E_⟩ := H.new (ci := 3) (fs := [.null, .int 0, .null, .null, .int 0, .null, .null, .int 0, .int 0, .int 0]) (by decide) rfl eC_22
  refine EX.bd eh_23 ?_
  rw [N_]
  replace t_10 := t_10.up E_
  replace t_3 := t_3.up E_
  replace ta0 := ta0.up E_
  replace t_17 := t_17.up E_
  replace E := E.tr E_
  have Hc_ := H.cv rfl t_24 (by decide)
  obtain ⟨C_26, eC_26, hf⟩ := x_bind hf
  obtain ⟨h_25, eh_25, H, E_⟩ := g18_ok H rfl t_24 eC_26
  refine EX.bd Hc_ ?_
  refine EX.bd eh_25 ?_
  replace t_3 := t_3.up E_
  replace t_17 := t_17.up E_
  replace t_24 := t_24.up E_
  replace ta0 := ta0.up E_
  replace t_10 := t_10.up E_
  replace E := E.tr E_
  obtain ⟨C_27, eC_27, hf⟩ := x_bind hf
  obtain ⟨h_28, eh_28, H, E_⟩ := H.pR (ci := 10) (k := 3) (ty := (.object "DocFormat$Layout")) rfl ta0 t_24 (by decide) (by decide) (by decide) rfl rfl eC_27
  refine EX.bd eh_28 ?_
  replace t_3 := t_3.up E_
  replace t_17 := t_17.up E_
  replace t_24 := t_24.up E_
  replace ta0 := ta0.up E_
  replace t_10 := t_10.up E_
  replace E := E.tr E_
  obtain ⟨C_29, eC_29, hf⟩ := x_bind hf
  obtain ⟨h_30, eh_30, N_, t_31, H, E_⟩ := H.new (ci := 4) (fs := [.null, .null, .int 0]) (by decide) rfl eC_29
  refine EX.bd eh_30 ?_
  rw [N_]
  replace t_3 := t_3.up E_
  replace t_17 := t_17.up E_
  replace t_24 := t_24.up E_
  replace ta0 := ta0.up E_
  replace t_10 := t_10.up E_
  replace E := E.tr E_
  have Hc_ := H.cv rfl t_31 (by decide)
  obtain ⟨C_33, eC_33, hf⟩ := x_bind hf
  obtain ⟨h_32, eh_32, H, E_⟩ := g40_ok H rfl t_31 eC_33
  refine EX.bd Hc_ ?_
  refine EX.bd eh_32 ?_
  replace t_3 := t_3.up E_
  replace t_17 := t_17.up E_
  replace t_31 := t_31.up E_
  replace t_24 := t_24.up E_
  replace ta0 := ta0.up E_
  replace t_10 := t_10.up E_
  replace E := E.tr E_
  obtain ⟨C_34, eC_34, hf⟩ := x_bind hf
  obtain ⟨h_35, eh_35, H, E_⟩ := H.pR (ci := 10) (k := 4) (ty := (.object "DocFormat$Notes")) rfl ta0 t_31 (by decide) (by decide) (by decide) rfl rfl eC_34
  refine EX.bd eh_35 ?_
  replace t_3 := t_3.up E_
  replace t_17 := t_17.up E_
  replace t_31 := t_31.up E_
  replace t_24 := t_24.up E_
  replace ta0 := ta0.up E_
  replace t_10 := t_10.up E_
  replace E := E.tr E_
  obtain ⟨C_36, eC_36, hf⟩ := x_bind hf
  obtain ⟨h_37, eh_37, N_, t_38, H, E_⟩ := H.new (ci := 1) (fs := [.null, .null, .null, .int 0, .int 0, .null]) (by decide) rfl eC_36
  refine EX.bd eh_37 ?_
  rw [N_]
  replace t_3 := t_3.up E_
  replace t_17 := t_17.up E_
  replace t_31 := t_31.up E_
  replace t_24 := t_24.up E_
  replace ta0 := ta0.up E_
  replace t_10 := t_10.up E_
  replace E := E.tr E_
  have Hc_ := H.cv rfl t_38 (by decide)
  obtain ⟨C_40, eC_40, hf⟩ := x_bind hf
  obtain ⟨h_39, eh_39, H, E_⟩ := g3_ok H rfl t_38 eC_40
  refine EX.bd Hc_ ?_
  refine EX.bd eh_39 ?_
  replace t_3 := t_3.up E_
  replace t_17 := t_17.up E_
  replace t_31 := t_31.up E_
  replace t_24 := t_24.up E_
  replace ta0 := ta0.up E_
  replace t_38 := t_38.up E_
  replace t_10 := t_10.up E_
  replace E := E.tr E_
  obtain ⟨C_41, eC_41, hf⟩ := x_bind hf
  obtain ⟨h_42, eh_42, H, E_⟩ := H.pR (ci := 10) (k := 5) (ty := (.object "DocFormat$Comment")) rfl ta0 t_38 (by decide) (by decide) (by decide) rfl rfl eC_41
  refine EX.bd eh_42 ?_
  replace t_3 := t_3.up E_
  replace t_17 := t_17.up E_
  replace t_31 := t_31.up E_
  replace t_24 := t_24.up E_
  replace ta0 := ta0.up E_
  replace t_10 := t_10.up E_
  replace t_38 := t_38.up E_
  replace E := E.tr E_
  obtain ⟨C_43, eC_43, hf⟩ := x_bind hf
  obtain ⟨h_44, eh_44, N_, t_45, H, E_⟩ := H.new (ci := 5) (fs := [.null, .null, .null, .int 0, .int 0, .int 0, .int 0, .int 0, .int 0]) (by decide) rfl eC_43
  refine EX.bd eh_44 ?_
  rw [N_]
  replace t_3 := t_3.up E_
  replace t_17 := t_17.up E_
  replace t_31 := t_31.up E_
  replace t_24 := t_24.up E_
  replace ta0 := ta0.up E_
  replace t_10 := t_10.up E_
  replace t_38 := t_38.up E_
  replace E := E.tr E_
  have Hc_ := H.cv rfl t_45 (by decide)
  obtain ⟨C_47, eC_47, hf⟩ := x_bind hf
  obtain ⟨h_46, eh_46, H, E_⟩ := g50_ok H rfl t_45 eC_47
  refine EX.bd Hc_ ?_
  refine EX.bd eh_46 ?_
  replace t_3 := t_3.up E_
  replace t_17 := t_17.up E_
  replace t_31 := t_31.up E_
  replace t_45 := t_45.up E_
  replace t_24 := t_24.up E_
  replace ta0 := ta0.up E_
  replace t_10 := t_10.up E_
  replace t_38 := t_38.up E_
  replace E := E.tr E_
  obtain ⟨C_48, eC_48, hf⟩ := x_bind hf
  obtain ⟨h_49, eh_49, H, E_⟩ := H.pR (ci := 10) (k := 6) (ty := (.object "DocFormat$Page")) rfl ta0 t_45 (by decide) (by decide) (by decide) rfl rfl eC_48
  refine EX.bd eh_49 ?_
  replace t_3 := t_3.up E_
  replace t_17 := t_17.up E_
  replace t_31 := t_31.up E_
  replace t_45 := t_45.up E_
  replace t_24 := t_24.up E_
  replace ta0 := ta0.up E_
  replace t_10 := t_10.up E_
  replace t_38 := t_38.up E_
  replace E := E.tr E_
  obtain ⟨C_50, eC_50, hf⟩ := x_bind hf
  obtain ⟨h_51, eh_51, N_, t_52, H, E_⟩ := H.new (ci := 5) (fs := [.null, .null, .null, .int 0, .int 0, .int 0, .int 0, .int 0, .int 0]) (by decide) rfl eC_50
  refine EX.bd eh_51 ?_
  rw [N_]
  replace t_3 := t_3.up E_
  replace t_17 := t_17.up E_
  replace t_31 := t_31.up E_
  replace t_45 := t_45.up E_
  replace t_24 := t_24.up E_
  replace ta0 := ta0.up E_
  replace t_10 := t_10.up E_
  replace t_38 := t_38.up E_
  replace E := E.tr E_
  have Hc_ := H.cv rfl t_52 (by decide)
  obtain ⟨C_54, eC_54, hf⟩ := x_bind hf
  obtain ⟨h_53, eh_53, H, E_⟩ := g50_ok H rfl t_52 eC_54
  refine EX.bd Hc_ ?_
  refine EX.bd eh_53 ?_
  replace t_3 := t_3.up E_
  replace t_17 := t_17.up E_
  replace t_31 := t_31.up E_
  replace t_45 := t_45.up E_
  replace t_24 := t_24.up E_
  replace ta0 := ta0.up E_
  replace t_52 := t_52.up E_
  replace t_10 := t_10.up E_
  replace t_38 := t_38.up E_
  replace E := E.tr E_
  obtain ⟨C_55, eC_55, hf⟩ := x_bind hf
  obtain ⟨h_56, eh_56, H, E_⟩ := H.pR (ci := 10) (k := 7) (ty := (.object "DocFormat$Page")) rfl ta0 t_52 (by decide) (by decide) (by decide) rfl rfl eC_55
  refine EX.bd eh_56 ?_
  replace t_3 := t_3.up E_
  replace t_17 := t_17.up E_
  replace t_31 := t_31.up E_
  replace t_45 := t_45.up E_
  replace t_24 := t_24.up E_
  replace ta0 := ta0.up E_
  replace t_52 := t_52.up E_
  replace t_10 := t_10.up E_
  replace t_38 := t_38.up E_
  replace E := E.tr E_
  obtain rfl := Option.some.inj hf
  exact ⟨_, rfl, H, E⟩
end
section
theorem g112_ok {h : xH} {C : xC} {o0 : Option Nat} {a0 : Nat} {x1 : Int32} {x2 : Int32} {x3 : Int32} {x4 : Int32} {x5 : Int32} {r : (Int32 × xC)} (H : WH h C) (e0 : o0 = some a0) (ta0 : tR C o0 10) (hf : g112 a0 x1 x2 x3 x4 x5 C = some r) : EX (fn112 o0 x1 x2 x3 x4 x5 h) (fun z => (r.1, z)) (QC C r.2) := by
  subst e0
  have E := Ext.rfl' (C := C)
  unfold g112 at hf
  unfold fn112
  refine EX.bd (H.gR rfl ta0 (by decide) (by decide) (by decide)) ?_
  have t_1 := H.tyR rfl ta0 (ci := 10) (k := 0) (by decide) (by decide) (by decide)
  obtain ⟨a_2, ea_2, hf⟩ := x_bind hf
  refine EX.bd (H.gI ea_2 t_1 (by decide) (by decide) rfl) ?_
  by_cases c_3 : ((cI C a_2 1) + 20) ≤ 600
  · replace hf := x_pos c_3 hf
    refine EX.pos c_3 ?_
    refine EX.bd (H.gR rfl ta0 (by decide) (by decide) (by decide)) ?_
    have Hc_ := H.cv ea_2 t_1 (by decide)
    obtain ⟨C_5, eC_5, hf⟩ := x_bind hf
    obtain ⟨h_4, eh_4, H, E_⟩ := g98_ok H ea_2 t_1 eC_5
    refine EX.bd Hc_ ?_
    refine EX.bd eh_4 ?_
    replace t_1 := t_1.up E_
    replace ta0 := ta0.up E_
    replace E := E.tr E_
    refine EX.bd (H.gR rfl ta0 (by decide) (by decide) (by decide)) ?_
    have t_6 := H.tyR rfl ta0 (ci := 10) (k := 0) (by decide) (by decide) (by decide)
    obtain ⟨a_9, ea_9, hf⟩ := x_bind hf
    have Hc_ := H.cv ea_9 t_6 (by decide)
    obtain ⟨C_8, eC_8, hf⟩ := x_bind hf
    obtain ⟨h_7, eh_7, H, E_⟩ := g98_ok H ea_9 t_6 eC_8
    refine EX.bd Hc_ ?_
    refine EX.bd eh_7 ?_
    replace t_1 := t_1.up E_
    replace ta0 := ta0.up E_
    replace t_6 := t_6.up E_
    replace E := E.tr E_
    refine EX.bd (H.gR rfl ta0 (by decide) (by decide) (by decide)) ?_
    have t_10 := H.tyR rfl ta0 (ci := 10) (k := 0) (by decide) (by decide) (by decide)
    obtain ⟨a_13, ea_13, hf⟩ := x_bind hf
    have Hc_ := H.cv ea_13 t_10 (by decide)
    obtain ⟨C_12, eC_12, hf⟩ := x_bind hf
    obtain ⟨h_11, eh_11, H, E_⟩ := g98_ok H ea_13 t_10 eC_12
    refine EX.bd Hc_ ?_
    refine EX.bd eh_11 ?_
    replace t_1 := t_1.up E_
    replace ta0 := ta0.up E_
    replace t_10 := t_10.up E_
    replace t_6 := t_6.up E_
    replace E := E.tr E_
    refine EX.bd (H.gR rfl ta0 (by decide) (by decide) (by decide)) ?_
    have t_14 := H.tyR rfl ta0 (ci := 10) (k := 0) (by decide) (by decide) (by decide)
    obtain ⟨a_17, ea_17, hf⟩ := x_bind hf
    have Hc_ := H.cv ea_17 t_14 (by decide)
    obtain ⟨C_16, eC_16, hf⟩ := x_bind hf
    obtain ⟨h_15, eh_15, H, E_⟩ := g98_ok H ea_17 t_14 eC_16
    refine EX.bd Hc_ ?_
    refine EX.bd eh_15 ?_
    replace t_14 := t_14.up E_
    replace t_10 := t_10.up E_
    replace t_6 := t_6.up E_
    replace ta0 := ta0.up E_
    replace t_1 := t_1.up E_
    replace E := E.tr E_
    refine EX.bd (H.gR rfl ta0 (by decide) (by decide) (by decide)) ?_
    have t_18 := H.tyR rfl ta0 (ci := 10) (k := 0) (by decide) (by decide) (by decide)
    obtain ⟨a_21, ea_21, hf⟩ := x_bind hf
    have Hc_ := H.cv ea_21 t_18 (by decide)
    obtain ⟨C_20, eC_20, hf⟩ := x_bind hf
    obtain ⟨h_19, eh_19, H, E_⟩ := g98_ok H ea_21 t_18 eC_20
    refine EX.bd Hc_ ?_
    refine EX.bd eh_19 ?_
    replace t_14 := t_14.up E_
    replace t_10 := t_10.up E_
    replace t_6 := t_6.up E_
    replace ta0 := ta0.up E_
    replace t_1 := t_1.up E_
    replace t_18 := t_18.up E_
    replace E := E.tr E_
    refine EX.bd (H.gR rfl ta0 (by decide) (by decide) (by decide)) ?_
    have t_22 := H.tyR rfl ta0 (ci := 10) (k := 0) (by decide) (by decide) (by decide)
    obtain ⟨a_23, ea_23, hf⟩ := x_bind hf
    refine EX.bd (H.gI ea_23 t_22 (by decide) (by decide) rfl) ?_
    obtain rfl := Option.some.inj hf
    exact ⟨_, rfl, H, E⟩
  · replace hf := x_neg c_3 hf
    refine EX.neg c_3 ?_
    obtain rfl := Option.some.inj hf
    exact ⟨_, rfl, H, E⟩
end
section
theorem gj113_17_ok {h : xH} {C : xC} {a0 : Nat} {x1 : Int32} {x2 : Int32} {r : (Int32 × xC)} (H : WH h C) (ta0 : tR C (some a0) 10) (hf : gj113_17 a0 x1 x2 C = some r) : EX (j113_17 (some a0) x1 x2 h) (fun z => (r.1, z)) (QC C r.2) := by
  have E := Ext.rfl' (C := C)
  unfold gj113_17 at hf
  unfold j113_17
  obtain rfl := Option.some.inj hf
  exact ⟨_, rfl, H, E⟩
theorem g113_ok {h : xH} {C : xC} {o0 : Option Nat} {a0 : Nat} {x1 : Int32} {r : (Int32 × xC)} (H : WH h C) (e0 : o0 = some a0) (ta0 : tR C o0 10) (hf : g113 a0 x1 C = some r) : EX (fn113 o0 x1 h) (fun z => (r.1, z)) (QC C r.2) := by
  subst e0
  have E := Ext.rfl' (C := C)
  unfold g113 at hf
  unfold fn113
  refine EX.bd (H.gR rfl ta0 (by decide) (by decide) (by decide)) ?_
  have t_1 := H.tyR rfl ta0 (ci := 10) (k := 0) (by decide) (by decide) (by decide)
  obtain ⟨a_2, ea_2, hf⟩ := x_bind hf
  refine EX.bd (H.gI ea_2 t_1 (by decide) (by decide) rfl) ?_
  by_cases c_3 : x1 < 0
  · replace hf := x_pos c_3 hf
    refine EX.pos c_3 ?_
    exact EX.uC E (gj113_17_ok H ta0 hf)
  · replace hf := x_neg c_3 hf
    refine EX.neg c_3 ?_
    by_cases c_4 : x1 ≤ (cI C a_2 1)
    · replace hf := x_pos c_4 hf
      refine EX.pos c_4 ?_
      refine EX.bd (H.gR rfl ta0 (by decide) (by decide) (by decide)) ?_
      have Hc_ := H.cv ea_2 t_1 (by decide)
      obtain ⟨C_6, eC_6, hf⟩ := x_bind hf
      obtain ⟨h_5, eh_5, H, E_⟩ := g101_ok H ea_2 t_1 eC_6
      refine EX.bd Hc_ ?_
      refine EX.bd eh_5 ?_
      replace t_1 := t_1.up E_
      replace ta0 := ta0.up E_
      replace E := E.tr E_
      obtain rfl := Option.some.inj hf
      exact ⟨_, rfl, H, E⟩
    · replace hf := x_neg c_4 hf
      refine EX.neg c_4 ?_
      exact EX.uC E (gj113_17_ok H ta0 hf)
end
section
theorem gj114_71_ok {h : xH} {C : xC} {a0 : Nat} {x1 : Int32} {o2 : Option Nat} {x3 : Int32} {r : (Int32 × xC)} (H : WH h C) (ta0 : tR C (some a0) 10) (to2 : tR C o2 2) (hf : gj114_71 a0 x1 o2 x3 C = some r) : EX (j114_71 (some a0) x1 o2 x3 h) (fun z => (r.1, z)) (QC C r.2) := by
  have E := Ext.rfl' (C := C)
  unfold gj114_71 at hf
  unfold j114_71
  refine EX.bd (H.gR rfl ta0 (by decide) (by decide) (by decide)) ?_
  have t_1 := H.tyR rfl ta0 (ci := 10) (k := 0) (by decide) (by decide) (by decide)
  obtain ⟨a_4, ea_4, hf⟩ := x_bind hf
  have Hc_ := H.cv ea_4 t_1 (by decide)
  obtain ⟨C_3, eC_3, hf⟩ := x_bind hf
  obtain ⟨h_2, eh_2, H, E_⟩ := g101_ok H ea_4 t_1 eC_3
  refine EX.bd Hc_ ?_
  refine EX.bd eh_2 ?_
  replace t_1 := t_1.up E_
  replace ta0 := ta0.up E_
  replace to2 := to2.up E_
  replace E := E.tr E_
  obtain rfl := Option.some.inj hf
  exact ⟨_, rfl, H, E⟩
theorem gj114_20_ok {h : xH} {C : xC} {a0 : Nat} {x1 : Int32} {o2 : Option Nat} {x3 : Int32} {r : (Int32 × xC)} (H : WH h C) (ta0 : tR C (some a0) 10) (to2 : tR C o2 2) (hf : gj114_20 a0 x1 o2 x3 C = some r) : EX (j114_20 (some a0) x1 o2 x3 h) (fun z => (r.1, z)) (QC C r.2) := by
  have E := Ext.rfl' (C := C)
  unfold gj114_20 at hf
  unfold j114_20
  refine EX.bd (H.gR rfl ta0 (by decide) (by decide) (by decide)) ?_
  have t_1 := H.tyR rfl ta0 (ci := 10) (k := 0) (by decide) (by decide) (by decide)
  obtain ⟨a_4, ea_4, hf⟩ := x_bind hf
  have Hc_ := H.cv ea_4 t_1 (by decide)
  obtain ⟨r_3, er_3, hf⟩ := x_bind hf
  obtain ⟨h_2, eh_2, H, E_⟩ := g108_ok H ea_4 t_1 er_3
  refine EX.bd Hc_ ?_
  refine EX.bd eh_2 ?_
  dsimp only
  replace t_1 := t_1.up E_
  replace ta0 := ta0.up E_
  replace to2 := to2.up E_
  replace E := E.tr E_
  by_cases c_5 : r_3.1 = 0
  · replace hf := x_pos c_5 hf
    refine EX.pos c_5 ?_
    exact EX.uC E (gj114_71_ok H ta0 to2 hf)
  · replace hf := x_neg c_5 hf
    refine EX.neg c_5 ?_
    refine EX.bd (H.gR rfl ta0 (by decide) (by decide) (by decide)) ?_
    have t_6 := H.tyR rfl ta0 (ci := 10) (k := 1) (by decide) (by decide) (by decide)
    refine EX.bd (H.gR rfl ta0 (by decide) (by decide) (by decide)) ?_
    have t_7 := H.tyR rfl ta0 (ci := 10) (k := 0) (by decide) (by decide) (by decide)
    refine EX.bd (H.gR rfl ta0 (by decide) (by decide) (by decide)) ?_
    obtain ⟨a_8, ea_8, hf⟩ := x_bind hf
    refine EX.bd (H.gI ea_8 t_7 (by decide) (by decide) rfl) ?_
    obtain ⟨a_11, ea_11, hf⟩ := x_bind hf
    have Hc_ := H.cv ea_11 t_6 (by decide)
    obtain ⟨r_10, er_10, hf⟩ := x_bind hf
    obtain ⟨h_9, eh_9, H, E_, t_12⟩ := g87_ok H ea_11 t_6 t_7 er_10
    refine EX.bd Hc_ ?_
    refine EX.bd eh_9 ?_
    dsimp only
    replace t_7 := t_7.up E_
    replace t_6 := t_6.up E_
    replace ta0 := ta0.up E_
    replace to2 := to2.up E_
    replace t_1 := t_1.up E_
    replace E := E.tr E_
    by_cases c_13 : r_10.1 = none
    · replace hf := x_pos c_13 hf
      refine EX.pos c_13 ?_
      refine EX.bd (H.gR rfl ta0 (by decide) (by decide) (by decide)) ?_
      have t_14 := H.tyR rfl ta0 (ci := 10) (k := 1) (by decide) (by decide) (by decide)
      refine EX.bd (H.gR rfl ta0 (by decide) (by decide) (by decide)) ?_
      have t_15 := H.tyR rfl ta0 (ci := 10) (k := 0) (by decide) (by decide) (by decide)
      obtain ⟨a_18, ea_18, hf⟩ := x_bind hf
      have Hc_ := H.cv ea_18 t_14 (by decide)
      obtain ⟨r_17, er_17, hf⟩ := x_bind hf
      obtain ⟨h_16, eh_16, H, E_⟩ := g82_ok H ea_18 t_14 tR_none to2 t_15 er_17
      refine EX.bd Hc_ ?_
      refine EX.bd eh_16 ?_
      dsimp only
      replace t_7 := t_7.up E_
      replace t_6 := t_6.up E_
      replace ta0 := ta0.up E_
      replace to2 := to2.up E_
      replace t_1 := t_1.up E_
      replace t_14 := t_14.up E_
      replace E := E.tr E_
      exact EX.uC E (gj114_71_ok H ta0 to2 hf)
    · replace hf := x_neg c_13 hf
      refine EX.neg c_13 ?_
      exact EX.uC E (gj114_71_ok H ta0 to2 hf)
theorem g114_ok {h : xH} {C : xC} {o0 : Option Nat} {a0 : Nat} {x1 : Int32} {r : (Int32 × xC)} (H : WH h C) (e0 : o0 = some a0) (ta0 : tR C o0 10) (hf : g114 a0 x1 C = some r) : EX (fn114 o0 x1 h) (fun z => (r.1, z)) (QC C r.2) := by
  subst e0
  have E := Ext.rfl' (C := C)
  unfold g114 at hf
  unfold fn114
  refine EX.bd (H.gR rfl ta0 (by decide) (by decide) (by decide)) ?_
  have t_1 := H.tyR rfl ta0 (ci := 10) (k := 1) (by decide) (by decide) (by decide)
  obtain ⟨a_4, ea_4, hf⟩ := x_bind hf
  have Hc_ := H.cv ea_4 t_1 (by decide)
  obtain ⟨r_3, er_3, hf⟩ := x_bind hf
  obtain ⟨h_2, eh_2, H, E_, t_5⟩ := g84_ok H ea_4 t_1 er_3
  refine EX.bd Hc_ ?_
  refine EX.bd eh_2 ?_
  dsimp only
  replace ta0 := ta0.up E_
  replace t_1 := t_1.up E_
  replace E := E.tr E_
  by_cases c_6 : r_3.1 = none
  · replace hf := x_pos c_6 hf
    refine EX.pos c_6 ?_
    by_cases c_7 : x1 = (-1)
    · replace hf := x_pos c_7 hf
      refine EX.pos c_7 ?_
      exact EX.uC E (gj114_20_ok H ta0 t_5 hf)
    · replace hf := x_neg c_7 hf
      refine EX.neg c_7 ?_
      exact EX.uC E (gj114_71_ok H ta0 t_5 hf)
  · replace hf := x_neg c_6 hf
    refine EX.neg c_6 ?_
    exact EX.uC E (gj114_20_ok H ta0 t_5 hf)
end
section
theorem gj115_69_ok {h : xH} {C : xC} {a0 : Nat} {x1 : Int32} {x2 : Int32} {o3 : Option Nat} {x4 : Int32} {r : (Int32 × xC)} (H : WH h C) (ta0 : tR C (some a0) 10) (to3 : tR C o3 2) (hf : gj115_69 a0 x1 x2 o3 x4 C = some r) : EX (j115_69 (some a0) x1 x2 o3 x4 h) (fun z => (r.1, z)) (QC C r.2) := by
  have E := Ext.rfl' (C := C)
  unfold gj115_69 at hf
  unfold j115_69
  refine EX.bd (H.gR rfl ta0 (by decide) (by decide) (by decide)) ?_
  have t_1 := H.tyR rfl ta0 (ci := 10) (k := 0) (by decide) (by decide) (by decide)
  obtain ⟨a_4, ea_4, hf⟩ := x_bind hf
  have Hc_ := H.cv ea_4 t_1 (by decide)
  obtain ⟨C_3, eC_3, hf⟩ := x_bind hf
  obtain ⟨h_2, eh_2, H, E_⟩ := g101_ok H ea_4 t_1 eC_3
  refine EX.bd Hc_ ?_
  refine EX.bd eh_2 ?_
  replace t_1 := t_1.up E_
  replace to3 := to3.up E_
  replace ta0 := ta0.up E_
  replace E := E.tr E_
  obtain rfl := Option.some.inj hf
  exact ⟨_, rfl, H, E⟩
theorem g115_ok {h : xH} {C : xC} {o0 : Option Nat} {a0 : Nat} {x1 : Int32} {x2 : Int32} {r : (Int32 × xC)} (H : WH h C) (e0 : o0 = some a0) (ta0 : tR C o0 10) (hf : g115 a0 x1 x2 C = some r) : EX (fn115 o0 x1 x2 h) (fun z => (r.1, z)) (QC C r.2) := by
  subst e0
  have E := Ext.rfl' (C := C)
  unfold g115 at hf
  unfold fn115
  refine EX.bd (H.gR rfl ta0 (by decide) (by decide) (by decide)) ?_
  have t_1 := H.tyR rfl ta0 (ci := 10) (k := 1) (by decide) (by decide) (by decide)
  obtain ⟨a_4, ea_4, hf⟩ := x_bind hf
  have Hc_ := H.cv ea_4 t_1 (by decide)
  obtain ⟨r_3, er_3, hf⟩ := x_bind hf
  obtain ⟨h_2, eh_2, H, E_, t_5⟩ := g84_ok H ea_4 t_1 er_3
  refine EX.bd Hc_ ?_
  refine EX.bd eh_2 ?_
  dsimp only
  replace ta0 := ta0.up E_
  replace t_1 := t_1.up E_
  replace E := E.tr E_
  by_cases c_6 : r_3.1 = none
  · replace hf := x_pos c_6 hf
    refine EX.pos c_6 ?_
    exact EX.uC E (gj115_69_ok H ta0 t_5 hf)
  · replace hf := x_neg c_6 hf
    refine EX.neg c_6 ?_
    refine EX.bd (H.gR rfl ta0 (by decide) (by decide) (by decide)) ?_
    have t_7 := H.tyR rfl ta0 (ci := 10) (k := 0) (by decide) (by decide) (by decide)
    obtain ⟨a_10, ea_10, hf⟩ := x_bind hf
    have Hc_ := H.cv ea_10 t_7 (by decide)
    obtain ⟨r_9, er_9, hf⟩ := x_bind hf
    obtain ⟨h_8, eh_8, H, E_⟩ := g108_ok H ea_10 t_7 er_9
    refine EX.bd Hc_ ?_
    refine EX.bd eh_8 ?_
    dsimp only
    replace t_7 := t_7.up E_
    replace ta0 := ta0.up E_
    replace t_1 := t_1.up E_
    replace t_5 := t_5.up E_
    replace E := E.tr E_
    by_cases c_11 : r_9.1 = 0
    · replace hf := x_pos c_11 hf
      refine EX.pos c_11 ?_
      exact EX.uC E (gj115_69_ok H ta0 t_5 hf)
    · replace hf := x_neg c_11 hf
      refine EX.neg c_11 ?_
      refine EX.bd (H.gR rfl ta0 (by decide) (by decide) (by decide)) ?_
      have t_12 := H.tyR rfl ta0 (ci := 10) (k := 1) (by decide) (by decide) (by decide)
      refine EX.bd (H.gR rfl ta0 (by decide) (by decide) (by decide)) ?_
      have t_13 := H.tyR rfl ta0 (ci := 10) (k := 0) (by decide) (by decide) (by decide)
      refine EX.bd (H.gR rfl ta0 (by decide) (by decide) (by decide)) ?_
      obtain ⟨a_14, ea_14, hf⟩ := x_bind hf
      refine EX.bd (H.gI ea_14 t_13 (by decide) (by decide) rfl) ?_
      obtain ⟨a_17, ea_17, hf⟩ := x_bind hf
      have Hc_ := H.cv ea_17 t_12 (by decide)
      obtain ⟨r_16, er_16, hf⟩ := x_bind hf
      obtain ⟨h_15, eh_15, H, E_, t_18⟩ := g88_ok H ea_17 t_12 t_5 t_13 er_16
      refine EX.bd Hc_ ?_
      refine EX.bd eh_15 ?_
      dsimp only
      replace t_7 := t_7.up E_
      replace t_12 := t_12.up E_
      replace t_13 := t_13.up E_
      replace ta0 := ta0.up E_
      replace t_1 := t_1.up E_
      replace t_5 := t_5.up E_
      replace E := E.tr E_
      by_cases c_19 : r_16.1 = none
      · replace hf := x_pos c_19 hf
        refine EX.pos c_19 ?_
        refine EX.bd (H.gR rfl ta0 (by decide) (by decide) (by decide)) ?_
        have t_20 := H.tyR rfl ta0 (ci := 10) (k := 1) (by decide) (by decide) (by decide)
        refine EX.bd (H.gR rfl ta0 (by decide) (by decide) (by decide)) ?_
        have t_21 := H.tyR rfl ta0 (ci := 10) (k := 0) (by decide) (by decide) (by decide)
        obtain ⟨a_24, ea_24, hf⟩ := x_bind hf
        have Hc_ := H.cv ea_24 t_20 (by decide)
        obtain ⟨r_23, er_23, hf⟩ := x_bind hf
        obtain ⟨h_22, eh_22, H, E_⟩ := g82_ok H ea_24 t_20 t_5 tR_none t_21 er_23
        refine EX.bd Hc_ ?_
        refine EX.bd eh_22 ?_
        dsimp only
        replace t_7 := t_7.up E_
        replace t_12 := t_12.up E_
        replace t_13 := t_13.up E_
        replace t_20 := t_20.up E_
        replace ta0 := ta0.up E_
        replace t_1 := t_1.up E_
        replace t_5 := t_5.up E_
        replace E := E.tr E_
        exact EX.uC E (gj115_69_ok H ta0 t_5 hf)
      · replace hf := x_neg c_19 hf
        refine EX.neg c_19 ?_
        exact EX.uC E (gj115_69_ok H ta0 t_5 hf)
end
