section
theorem gj109_39_ok {h : xH} {C : xC} {a0 : Nat} {x1 : Int32} {x2 : Int32} {x3 : Int32} {s0 : Int32} {r : (Int32 × xC)} (H : WH h C) (ta0 : tR C (some a0) 9) (hf : gj109_39 a0 x1 x2 x3 s0 C = some r) : EX (j109_39 (some a0) x1 x2 x3 s0 h) (fun z => (r.1, z)) (QC C r.2) := by
  have E := Ext.rfl' (C := C)
  unfold gj109_39 at hf
  unfold j109_39
  by_cases c_1 : s0 &&& 1 = s0
  · replace hf := x_pos c_1 hf
    refine EX.pos c_1 ?_
    obtain rfl := Option.some.inj hf
    exact ⟨_, rfl, H, E⟩
  · replace hf := x_neg c_1 hf
    cases hf
theorem gj109_38_ok {h : xH} {C : xC} {a0 : Nat} {x1 : Int32} {x2 : Int32} {x3 : Int32} {r : (Int32 × xC)} (H : WH h C) (ta0 : tR C (some a0) 9) (hf : gj109_38 a0 x1 x2 x3 C = some r) : EX (j109_38 (some a0) x1 x2 x3 h) (fun z => (r.1, z)) (QC C r.2) := by
  have E := Ext.rfl' (C := C)
  unfold gj109_38 at hf
  unfold j109_38
  exact EX.uC E (gj109_39_ok H ta0 hf)
theorem gj109_34_ok {h : xH} {C : xC} {a0 : Nat} {x1 : Int32} {x2 : Int32} {x3 : Int32} {r : (Int32 × xC)} (H : WH h C) (ta0 : tR C (some a0) 9) (hf : gj109_34 a0 x1 x2 x3 C = some r) : EX (j109_34 (some a0) x1 x2 x3 h) (fun z => (r.1, z)) (QC C r.2) := by
  have E := Ext.rfl' (C := C)
  unfold gj109_34 at hf
  unfold j109_34
  exact EX.uC E (gj109_39_ok H ta0 hf)
theorem g109_ok {h : xH} {C : xC} {o0 : Option Nat} {a0 : Nat} {x1 : Int32} {x2 : Int32} {r : (Int32 × xC)} (H : WH h C) (e0 : o0 = some a0) (ta0 : tR C o0 9) (hf : g109 a0 x1 x2 C = some r) : EX (fn109 o0 x1 x2 h) (fun z => (r.1, z)) (QC C r.2) := by
  subst e0
  have E := Ext.rfl' (C := C)
  unfold g109 at hf
  unfold fn109
  have Hc_ := H.cv rfl ta0 (by decide)
  obtain ⟨r_2, er_2, hf⟩ := x_bind hf
  obtain ⟨h_1, eh_1, H, E_⟩ := g105_ok H rfl ta0 er_2
  refine EX.bd Hc_ ?_
  refine EX.bd eh_1 ?_
  dsimp only
  replace ta0 := ta0.up E_
  replace E := E.tr E_
  have Hc_ := H.cv rfl ta0 (by decide)
  obtain ⟨r_4, er_4, hf⟩ := x_bind hf
  obtain ⟨h_3, eh_3, H, E_⟩ := g107_ok H rfl ta0 er_4
  refine EX.bd Hc_ ?_
  refine EX.bd eh_3 ?_
  dsimp only
  replace ta0 := ta0.up E_
  replace E := E.tr E_
  by_cases c_5 : r_4.1 = 0
  · replace hf := x_pos c_5 hf
    refine EX.pos c_5 ?_
    exact EX.uC E (gj109_38_ok H ta0 hf)
  · replace hf := x_neg c_5 hf
    refine EX.neg c_5 ?_
    by_cases c_6 : r_2.1 = x2
    · replace hf := x_pos c_6 hf
      refine EX.pos c_6 ?_
      exact EX.uC E (gj109_34_ok H ta0 hf)
    · replace hf := x_neg c_6 hf
      refine EX.neg c_6 ?_
      have Hc_ := H.cv rfl ta0 (by decide)
      obtain ⟨r_8, er_8, hf⟩ := x_bind hf
      obtain ⟨h_7, eh_7, H, E_⟩ := g107_ok H rfl ta0 er_8
      refine EX.bd Hc_ ?_
      refine EX.bd eh_7 ?_
      dsimp only
      replace ta0 := ta0.up E_
      replace E := E.tr E_
      by_cases c_9 : r_8.1 = 0
      · replace hf := x_pos c_9 hf
        refine EX.pos c_9 ?_
        exact EX.uC E (gj109_38_ok H ta0 hf)
      · replace hf := x_neg c_9 hf
        refine EX.neg c_9 ?_
        exact EX.uC E (gj109_34_ok H ta0 hf)
end
section
theorem gj79_145_ok {h : xH} {C : xC} {a0 : Nat} {x1 : Int32} {x2 : Int32} {x3 : Int32} {x4 : Int32} {x5 : Int32} {x6 : Int32} {x7 : Int32} {o8 : Option Nat} {r : (Option Nat × xC)} (H : WH h C) (ta0 : tR C (some a0) 7) (to8 : tR C o8 6) (hf : gj79_145 a0 x1 x2 x3 x4 x5 x6 x7 o8 C = some r) : EX (j79_145 (some a0) x1 x2 x3 x4 x5 x6 x7 o8 h) (fun z => (r.1, z)) (QR 6 C r) := by
  have E := Ext.rfl' (C := C)
  unfold gj79_145 at hf
  unfold j79_145
  obtain rfl := Option.some.inj hf
  exact ⟨_, rfl, H, E, to8⟩
theorem gj79_142_ok {h : xH} {C : xC} {a0 : Nat} {x1 : Int32} {x2 : Int32} {x3 : Int32} {x4 : Int32} {x5 : Int32} {x6 : Int32} {x7 : Int32} {o8 : Option Nat} {s0 : Option Nat} {s1 : Int32} {r : (Option Nat × xC)} (H : WH h C) (ta0 : tR C (some a0) 7) (to8 : tR C o8 6) (ts0 : tR C s0 6) (hf : gj79_142 a0 x1 x2 x3 x4 x5 x6 x7 o8 s0 s1 C = some r) : EX (j79_142 (some a0) x1 x2 x3 x4 x5 x6 x7 o8 s0 s1 h) (fun z => (r.1, z)) (QR 6 C r) := by
  have E := Ext.rfl' (C := C)
  unfold gj79_142 at hf
  unfold j79_142
  obtain ⟨a_3, ea_3, hf⟩ := x_bind hf
  obtain ⟨C_1, eC_1, hf⟩ := x_bind hf
  obtain ⟨h_2, eh_2, H, E_⟩ := H.pI ea_3 ts0 (by decide) (by decide) rfl (xfit_int _) eC_1
  refine EX.bd eh_2 ?_
  replace to8 := to8.up E_
  replace ta0 := ta0.up E_
  replace ts0 := ts0.up E_
  replace E := E.tr E_
  exact EX.uR E (gj79_145_ok H ta0 to8 hf)
theorem gj79_90_ok {h : xH} {C : xC} {a0 : Nat} {x1 : Int32} {x2 : Int32} {x3 : Int32} {x4 : Int32} {x5 : Int32} {x6 : Int32} {s0 : Int32} {r : (Option Nat × xC)} (H : WH h C) (ta0 : tR C (some a0) 7) (hf : gj79_90 a0 x1 x2 x3 x4 x5 x6 s0 C = some r) : EX (j79_90 (some a0) x1 x2 x3 x4 x5 x6 s0 h) (fun z => (r.1, z)) (QR 6 C r) := by
  have E := Ext.rfl' (C := C)
  unfold gj79_90 at hf
  unfold j79_90
  have Hc_ := H.cv rfl ta0 (by decide)
  obtain ⟨r_2, er_2, hf⟩ := x_bind hf
  obtain ⟨h_1, eh_1, H, E_, t_3⟩ := g77_ok H rfl ta0 er_2
  refine EX.bd Hc_ ?_
  refine EX.bd eh_1 ?_
  dsimp only
  replace ta0 := ta0.up E_
  replace E := E.tr E_
  by_cases c_4 : r_2.1 = none
  · replace hf := x_pos c_4 hf
    refine EX.pos c_4 ?_
    exact EX.uR E (gj79_145_ok H ta0 t_3 hf)
  · replace hf := x_neg c_4 hf
    refine EX.neg c_4 ?_
    obtain ⟨a_7, ea_7, hf⟩ := x_bind hf
    obtain ⟨C_5, eC_5, hf⟩ := x_bind hf
    obtain ⟨h_6, eh_6, H, E_⟩ := H.pI ea_7 t_3 (by decide) (by decide) rfl (xfit_int _) eC_5
    refine EX.bd eh_6 ?_
    replace t_3 := t_3.up E_
    replace ta0 := ta0.up E_
    replace E := E.tr E_
    obtain ⟨C_8, eC_8, hf⟩ := x_bind hf
    obtain ⟨h_9, eh_9, H, E_⟩ := H.pI ea_7 t_3 (by decide) (by decide) rfl (xfit_int _) eC_8
    refine EX.bd eh_9 ?_
    replace t_3 := t_3.up E_
    replace ta0 := ta0.up E_
    replace E := E.tr E_
    obtain ⟨C_10, eC_10, hf⟩ := x_bind hf
    obtain ⟨h_11, eh_11, H, E_⟩ := H.pI ea_7 t_3 (by decide) (by decide) rfl (xfit_int _) eC_10
    refine EX.bd eh_11 ?_
    replace t_3 := t_3.up E_
    replace ta0 := ta0.up E_
    replace E := E.tr E_
    by_cases c_12 : x5 = x4
    · replace hf := x_pos c_12 hf
      refine EX.pos c_12 ?_
      exact EX.uR E (gj79_142_ok H ta0 t_3 t_3 hf)
    · replace hf := x_neg c_12 hf
      refine EX.neg c_12 ?_
      exact EX.uR E (gj79_142_ok H ta0 t_3 t_3 hf)
theorem gj79_89_ok {h : xH} {C : xC} {a0 : Nat} {x1 : Int32} {x2 : Int32} {x3 : Int32} {x4 : Int32} {x5 : Int32} {x6 : Int32} {r : (Option Nat × xC)} (H : WH h C) (ta0 : tR C (some a0) 7) (hf : gj79_89 a0 x1 x2 x3 x4 x5 x6 C = some r) : EX (j79_89 (some a0) x1 x2 x3 x4 x5 x6 h) (fun z => (r.1, z)) (QR 6 C r) := by
  have E := Ext.rfl' (C := C)
  unfold gj79_89 at hf
  unfold j79_89
  exact EX.uR E (gj79_90_ok H ta0 hf)
theorem gj79_85_ok {h : xH} {C : xC} {a0 : Nat} {x1 : Int32} {x2 : Int32} {x3 : Int32} {x4 : Int32} {x5 : Int32} {x6 : Int32} {r : (Option Nat × xC)} (H : WH h C) (ta0 : tR C (some a0) 7) (hf : gj79_85 a0 x1 x2 x3 x4 x5 x6 C = some r) : EX (j79_85 (some a0) x1 x2 x3 x4 x5 x6 h) (fun z => (r.1, z)) (QR 6 C r) := by
  have E := Ext.rfl' (C := C)
  unfold gj79_85 at hf
  unfold j79_85
  exact EX.uR E (gj79_90_ok H ta0 hf)
theorem g79_ok {h : xH} {C : xC} {o0 : Option Nat} {a0 : Nat} {x1 : Int32} {x2 : Int32} {r : (Option Nat × xC)} (H : WH h C) (e0 : o0 = some a0) (ta0 : tR C o0 7) (hf : g79 a0 x1 x2 C = some r) : EX (fn79 o0 x1 x2 h) (fun z => (r.1, z)) (QR 6 C r) := by
  subst e0
  have E := Ext.rfl' (C := C)
  unfold g79 at hf
  unfold fn79
  obtain ⟨v_1, ev_1, hf⟩ := x_bind hf
  refine EX.bd ev_1 ?_
  refine EX.bd (H.gR rfl ta0 (by decide) (by decide) (by decide)) ?_
  have t_2 := H.tyR rfl ta0 (ci := 7) (k := 2) (by decide) (by decide) (by decide)
  obtain ⟨a_5, ea_5, hf⟩ := x_bind hf
  have Hc_ := H.cv ea_5 t_2 (by decide)
  obtain ⟨r_4, er_4, hf⟩ := x_bind hf
  obtain ⟨h_3, eh_3, H, E_⟩ := g105_ok H ea_5 t_2 er_4
  refine EX.bd Hc_ ?_
  refine EX.bd eh_3 ?_
  dsimp only
  replace ta0 := ta0.up E_
  replace t_2 := t_2.up E_
  replace E := E.tr E_
  refine EX.bd (H.gR rfl ta0 (by decide) (by decide) (by decide)) ?_
  have t_6 := H.tyR rfl ta0 (ci := 7) (k := 2) (by decide) (by decide) (by decide)
  obtain ⟨a_9, ea_9, hf⟩ := x_bind hf
  have Hc_ := H.cv ea_9 t_6 (by decide)
  obtain ⟨r_8, er_8, hf⟩ := x_bind hf
  obtain ⟨h_7, eh_7, H, E_⟩ := g105_ok H ea_9 t_6 er_8
  refine EX.bd Hc_ ?_
  refine EX.bd eh_7 ?_
  dsimp only
  replace t_6 := t_6.up E_
  replace ta0 := ta0.up E_
  replace t_2 := t_2.up E_
  replace E := E.tr E_
  refine EX.bd (H.gR rfl ta0 (by decide) (by decide) (by decide)) ?_
  have t_10 := H.tyR rfl ta0 (ci := 7) (k := 2) (by decide) (by decide) (by decide)
  obtain ⟨a_13, ea_13, hf⟩ := x_bind hf
  have Hc_ := H.cv ea_13 t_10 (by decide)
  obtain ⟨r_12, er_12, hf⟩ := x_bind hf
  obtain ⟨h_11, eh_11, H, E_⟩ := g106_ok H ea_13 t_10 er_12
  refine EX.bd Hc_ ?_
  refine EX.bd eh_11 ?_
  dsimp only
  replace t_10 := t_10.up E_
  replace t_6 := t_6.up E_
  replace ta0 := ta0.up E_
  replace t_2 := t_2.up E_
  replace E := E.tr E_
  by_cases c_14 : x2 ≤ r_4.1
  · replace hf := x_pos c_14 hf
    refine EX.pos c_14 ?_
    exact EX.uR E (gj79_89_ok H ta0 hf)
  · replace hf := x_neg c_14 hf
    refine EX.neg c_14 ?_
    refine EX.bd (H.gR rfl ta0 (by decide) (by decide) (by decide)) ?_
    have t_15 := H.tyR rfl ta0 (ci := 7) (k := 2) (by decide) (by decide) (by decide)
    obtain ⟨a_18, ea_18, hf⟩ := x_bind hf
    have Hc_ := H.cv ea_18 t_15 (by decide)
    obtain ⟨r_17, er_17, hf⟩ := x_bind hf
    obtain ⟨h_16, eh_16, H, E_⟩ := g109_ok H ea_18 t_15 er_17
    refine EX.bd Hc_ ?_
    refine EX.bd eh_16 ?_
    dsimp only
    replace t_2 := t_2.up E_
    replace t_10 := t_10.up E_
    replace t_15 := t_15.up E_
    replace t_6 := t_6.up E_
    replace ta0 := ta0.up E_
    replace E := E.tr E_
    by_cases c_19 : r_17.1 = 0
    · replace hf := x_pos c_19 hf
      refine EX.pos c_19 ?_
      exact EX.uR E (gj79_89_ok H ta0 hf)
    · replace hf := x_neg c_19 hf
      refine EX.neg c_19 ?_
      by_cases c_20 : r_8.1 = r_4.1
      · replace hf := x_pos c_20 hf
        refine EX.pos c_20 ?_
        exact EX.uR E (gj79_85_ok H ta0 hf)
      · replace hf := x_neg c_20 hf
        refine EX.neg c_20 ?_
        have Hc_ := H.cv rfl ta0 (by decide)
        obtain ⟨r_22, er_22, hf⟩ := x_bind hf
        obtain ⟨h_21, eh_21, H, E_⟩ := g80_ok H rfl ta0 er_22
        refine EX.bd Hc_ ?_
        refine EX.bd eh_21 ?_
        dsimp only
        replace t_2 := t_2.up E_
        replace t_10 := t_10.up E_
        replace t_15 := t_15.up E_
        replace t_6 := t_6.up E_
        replace ta0 := ta0.up E_
        replace E := E.tr E_
        by_cases c_23 : r_22.1 = 0
        · replace hf := x_pos c_23 hf
          refine EX.pos c_23 ?_
          exact EX.uR E (gj79_89_ok H ta0 hf)
        · replace hf := x_neg c_23 hf
          refine EX.neg c_23 ?_
          exact EX.uR E (gj79_85_ok H ta0 hf)
end
section
theorem gl104_2_ok : ∀ (n : Nat) {h : xH} {C : xC} {a0 : Nat} {x1 : Int32} {q2 : Nat} {x3 : Int32} {r : (Int32 × xC)} (H : WH h C) (ta0 : tR C (some a0) 9), gl104_2 n a0 x1 q2 x3 C = some r → EX (l104_2 n (some a0) x1 q2 x3 h) (fun z => (r.1, z)) (QC C r.2) := by
  intro n
  induction n with
  | zero => intros; rename_i hf; cases hf
  | succ n ih =>
    intro h C a0 x1 q2 x3 r H ta0 hf
    have E := Ext.rfl' (C := C)
    replace hf : ((xqL q2).bind fun v_1 => (if v_1 ≤ x3 then some (1, C) else (g96 a0 (x1 + x3) C).bind fun r_4 => (xqC q2 x3).bind fun v_5 => (if r_4.1 = v_5 then gl104_2 n a0 x1 q2 (x3 + 1) r_4.2 else some (0, r_4.2)))) = some r := hf
    unfold l104_2
    obtain ⟨v_1, ev_1, hf⟩ := x_bind hf
    refine EX.bd ev_1 ?_
    by_cases c_2 : v_1 ≤ x3
    · replace hf := x_pos c_2 hf
      refine EX.pos c_2 ?_
      obtain rfl := Option.some.inj hf
      exact ⟨_, rfl, H, E⟩
    · replace hf := x_neg c_2 hf
      refine EX.neg c_2 ?_
      have Hc_ := H.cv rfl ta0 (by decide)
      obtain ⟨r_4, er_4, hf⟩ := x_bind hf
      obtain ⟨h_3, eh_3, H, E_⟩ := g96_ok H rfl ta0 er_4
      refine EX.bd Hc_ ?_
      refine EX.bd eh_3 ?_
      dsimp only
      replace ta0 := ta0.up E_
      replace E := E.tr E_
      obtain ⟨v_5, ev_5, hf⟩ := x_bind hf
      refine EX.bd ev_5 ?_
      by_cases c_6 : r_4.1 = v_5
      · replace hf := x_pos c_6 hf
        refine EX.pos c_6 ?_
        exact EX.uC E (ih H ta0 hf)
      · replace hf := x_neg c_6 hf
        refine EX.neg c_6 ?_
        obtain rfl := Option.some.inj hf
        exact ⟨_, rfl, H, E⟩
theorem g104_ok {h : xH} {C : xC} {o0 : Option Nat} {a0 : Nat} {x1 : Int32} {q2 : Nat} {r : (Int32 × xC)} (H : WH h C) (e0 : o0 = some a0) (ta0 : tR C o0 9) (hf : g104 a0 x1 q2 C = some r) : EX (fn104 o0 x1 q2 h) (fun z => (r.1, z)) (QC C r.2) := by
  subst e0
  have E := Ext.rfl' (C := C)
  unfold g104 at hf
  unfold fn104
  exact EX.uC E (gl104_2_ok xFuel H ta0 hf)
end
section
theorem gj74_173_ok {h : xH} {C : xC} {a0 : Nat} {x1 : Int32} {x2 : Int32} {x3 : Int32} {x4 : Int32} {x5 : Int32} {r : xC} (H : WH h C) (ta0 : tR C (some a0) 7) (hf : gj74_173 a0 x1 x2 x3 x4 x5 C = some r) : EX (j74_173 (some a0) x1 x2 x3 x4 x5 h) (fun z => z) (QC C r) := by
  have E := Ext.rfl' (C := C)
  unfold gj74_173 at hf
  unfold j74_173
  obtain rfl := Option.some.inj hf
  exact ⟨_, rfl, H, E⟩
theorem gj74_165_ok {k16 : Nat → Int32 → Int32 → Int32 → Int32 → Int32 → xC → Option xC} {f16 : Option Nat → Int32 → Int32 → Int32 → Int32 → Int32 → xH → Option xH} (hk16 : ∀ {h : xH} {C : xC} {a0 : Nat} {x1 : Int32} {x2 : Int32} {x3 : Int32} {x4 : Int32} {x5 : Int32} {r : xC}, WH h C → tR C (some a0) 7 → k16 a0 x1 x2 x3 x4 x5 C = some r → EX (f16 (some a0) x1 x2 x3 x4 x5 h) (fun z => z) (QC C r)) {h : xH} {C : xC} {a0 : Nat} {x1 : Int32} {x2 : Int32} {x3 : Int32} {x4 : Int32} {x5 : Int32} {o6 : Option Nat} {x7 : Int32} {s0 : Int32} {r : xC} (H : WH h C) (ta0 : tR C (some a0) 7) (to6 : tR C o6 6) (hf : gj74_165 k16 a0 x1 x2 x3 x4 x5 o6 x7 s0 C = some r) : EX (j74_165 f16 (some a0) x1 x2 x3 x4 x5 o6 x7 s0 h) (fun z => z) (QC C r) := by
  have E := Ext.rfl' (C := C)
  unfold gj74_165 at hf
  unfold j74_165
  exact EX.uC E (hk16 H ta0 hf)
theorem gj74_141_ok {k16 : Nat → Int32 → Int32 → Int32 → Int32 → Int32 → xC → Option xC} {f16 : Option Nat → Int32 → Int32 → Int32 → Int32 → Int32 → xH → Option xH} (hk16 : ∀ {h : xH} {C : xC} {a0 : Nat} {x1 : Int32} {x2 : Int32} {x3 : Int32} {x4 : Int32} {x5 : Int32} {r : xC}, WH h C → tR C (some a0) 7 → k16 a0 x1 x2 x3 x4 x5 C = some r → EX (f16 (some a0) x1 x2 x3 x4 x5 h) (fun z => z) (QC C r)) {h : xH} {C : xC} {a0 : Nat} {x1 : Int32} {x2 : Int32} {x3 : Int32} {x4 : Int32} {x5 : Int32} {o6 : Option Nat} {s0 : Int32} {r : xC} (H : WH h C) (ta0 : tR C (some a0) 7) (to6 : tR C o6 6) (hf : gj74_141 k16 a0 x1 x2 x3 x4 x5 o6 s0 C = some r) : EX (j74_141 f16 (some a0) x1 x2 x3 x4 x5 o6 s0 h) (fun z => z) (QC C r) := by
  have E := Ext.rfl' (C := C)
  unfold gj74_141 at hf
  unfold j74_141
  refine EX.bd (H.gR rfl ta0 (by decide) (by decide) (by decide)) ?_
  have t_1 := H.tyR rfl ta0 (ci := 7) (k := 2) (by decide) (by decide) (by decide)
  obtain ⟨a_4, ea_4, hf⟩ := x_bind hf
  have Hc_ := H.cv ea_4 t_1 (by decide)
  obtain ⟨r_3, er_3, hf⟩ := x_bind hf
  obtain ⟨h_2, eh_2, H, E_⟩ := g106_ok H ea_4 t_1 er_3
  refine EX.bd Hc_ ?_
  refine EX.bd eh_2 ?_
  dsimp only
  replace ta0 := ta0.up E_
  replace t_1 := t_1.up E_
  replace to6 := to6.up E_
  replace E := E.tr E_
  by_cases c_5 : r_3.1 = s0
  · replace hf := x_pos c_5 hf
    refine EX.pos c_5 ?_
    exact EX.uC E (gj74_165_ok (k16 := k16) (f16 := f16) hk16 H ta0 to6 hf)
  · replace hf := x_neg c_5 hf
    refine EX.neg c_5 ?_
    exact EX.uC E (gj74_165_ok (k16 := k16) (f16 := f16) hk16 H ta0 to6 hf)
theorem gj74_97_ok {h : xH} {C : xC} {a0 : Nat} {x1 : Int32} {x2 : Int32} {x3 : Int32} {x4 : Int32} {x5 : Int32} {o6 : Option Nat} {r : xC} (H : WH h C) (ta0 : tR C (some a0) 7) (to6 : tR C o6 6) (hf : gj74_97 a0 x1 x2 x3 x4 x5 o6 C = some r) : EX (j74_97 (some a0) x1 x2 x3 x4 x5 o6 h) (fun z => z) (QC C r) := by
  have E := Ext.rfl' (C := C)
  unfold gj74_97 at hf
  unfold j74_97
  obtain rfl := Option.some.inj hf
  exact ⟨_, rfl, H, E⟩
theorem gj74_85_ok {k16 : Nat → Int32 → Int32 → Int32 → Int32 → Int32 → xC → Option xC} {f16 : Option Nat → Int32 → Int32 → Int32 → Int32 → Int32 → xH → Option xH} (hk16 : ∀ {h : xH} {C : xC} {a0 : Nat} {x1 : Int32} {x2 : Int32} {x3 : Int32} {x4 : Int32} {x5 : Int32} {r : xC}, WH h C → tR C (some a0) 7 → k16 a0 x1 x2 x3 x4 x5 C = some r → EX (f16 (some a0) x1 x2 x3 x4 x5 h) (fun z => z) (QC C r)) {h : xH} {C : xC} {a0 : Nat} {x1 : Int32} {x2 : Int32} {x3 : Int32} {x4 : Int32} {x5 : Int32} {o6 : Option Nat} {r : xC} (H : WH h C) (ta0 : tR C (some a0) 7) (to6 : tR C o6 6) (hf : gj74_85 k16 a0 x1 x2 x3 x4 x5 o6 C = some r) : EX (j74_85 f16 (some a0) x1 x2 x3 x4 x5 o6 h) (fun z => z) (QC C r) := by
  have E := Ext.rfl' (C := C)
  unfold gj74_85 at hf
  unfold j74_85
  by_cases c_1 : o6 = none
  · replace hf := x_pos c_1 hf
    refine EX.pos c_1 ?_
    exact EX.uC E (gj74_97_ok H ta0 to6 hf)
  · replace hf := x_neg c_1 hf
    refine EX.neg c_1 ?_
    refine EX.bd (H.gR rfl ta0 (by decide) (by decide) (by decide)) ?_
    have t_2 := H.tyR rfl ta0 (ci := 7) (k := 3) (by decide) (by decide) (by decide)
    by_cases c_3 : (cR C a0 3) = none
    · replace hf := x_pos c_3 hf
      refine EX.pos c_3 ?_
      exact EX.uC E (gj74_97_ok H ta0 to6 hf)
    · replace hf := x_neg c_3 hf
      refine EX.neg c_3 ?_
      by_cases c_6 : x4 &&& 1 = x4
      · replace hf := x_pos c_6 hf
        obtain ⟨a_7, ea_7, hf⟩ := x_bind hf
        obtain ⟨C_4, eC_4, hf⟩ := x_bind hf
        obtain ⟨h_5, eh_5, H, E_⟩ := H.pI ea_7 to6 (by decide) (by decide) rfl (xfit_b c_6) eC_4
        refine EX.bd eh_5 ?_
        replace ta0 := ta0.up E_
        replace to6 := to6.up E_
        replace E := E.tr E_
        refine EX.bd (H.gR rfl ta0 (by decide) (by decide) (by decide)) ?_
        have t_8 := H.tyR rfl ta0 (ci := 7) (k := 3) (by decide) (by decide) (by decide)
        obtain ⟨a_9, ea_9, hf⟩ := x_bind hf
        refine EX.bd (H.gI ea_9 t_8 (by decide) (by decide) rfl) ?_
        obtain ⟨C_10, eC_10, hf⟩ := x_bind hf
        obtain ⟨h_11, eh_11, H, E_⟩ := H.pI ea_9 t_8 (by decide) (by decide) rfl (xfit_int _) eC_10
        refine EX.bd eh_11 ?_
        replace ta0 := ta0.up E_
        replace t_8 := t_8.up E_
        replace to6 := to6.up E_
        replace E := E.tr E_
        refine EX.bd (H.gI ea_7 to6 (by decide) (by decide) rfl) ?_
        by_cases c_12 : (cI C_10 a_7 0) = 0
        · replace hf := x_pos c_12 hf
          refine EX.pos c_12 ?_
          refine EX.bd (H.gI ea_7 to6 (by decide) (by decide) rfl) ?_
          exact EX.uC E (gj74_141_ok (k16 := k16) (f16 := f16) hk16 H ta0 to6 hf)
        · replace hf := x_neg c_12 hf
          refine EX.neg c_12 ?_
          refine EX.bd (H.gI ea_7 to6 (by decide) (by decide) rfl) ?_
          exact EX.uC E (gj74_141_ok (k16 := k16) (f16 := f16) hk16 H ta0 to6 hf)
      · replace hf := x_neg c_6 hf
        cases hf
theorem gl74_16_ok : ∀ (n : Nat) {h : xH} {C : xC} {a0 : Nat} {x1 : Int32} {x2 : Int32} {x3 : Int32} {x4 : Int32} {x5 : Int32} {r : xC} (H : WH h C) (ta0 : tR C (some a0) 7), gl74_16 n a0 x1 x2 x3 x4 x5 C = some r → EX (l74_16 n (some a0) x1 x2 x3 x4 x5 h) (fun z => z) (QC C r) := by
  intro n
  induction n with
  | zero => intros; rename_i hf; cases hf
  | succ n ih =>
    intro h C a0 x1 x2 x3 x4 x5 r H ta0 hf
    have E := Ext.rfl' (C := C)
    replace hf : ((if 600 ≤ x5 then gj74_173 a0 x1 x2 x3 x4 x5 C else (if x2 ≤ x3 then gj74_173 a0 x1 x2 x3 x4 x5 C else (cR C a0 2).bind fun a_6 => (g104 a_6 x3 1 C).bind fun r_5 => (if r_5.1 = 0 then (cR r_5.2 a0 2).bind fun a_11 => (g104 a_11 x3 2 r_5.2).bind fun r_10 => (if r_10.1 = 0 then (g75 a0 x3 x2 r_10.2).bind fun r_14 => gj74_85 (gl74_16 n) a0 x1 x2 x3 x4 x5 r_14.1 r_14.2 else (g79 a0 x3 x2 r_10.2).bind fun r_17 => gj74_85 (gl74_16 n) a0 x1 x2 x3 x4 x5 r_17.1 r_17.2) else (g78 a0 x3 x2 r_5.2).bind fun r_20 => gj74_85 (gl74_16 n) a0 x1 x2 x3 x4 x5 r_20.1 r_20.2)))) = some r := hf
    unfold l74_16
    by_cases c_1 : 600 ≤ x5
    · replace hf := x_pos c_1 hf
      refine EX.pos c_1 ?_
      exact EX.uC E (gj74_173_ok H ta0 hf)
    · replace hf := x_neg c_1 hf
      refine EX.neg c_1 ?_
      by_cases c_2 : x2 ≤ x3
      · replace hf := x_pos c_2 hf
        refine EX.pos c_2 ?_
        exact EX.uC E (gj74_173_ok H ta0 hf)
      · replace hf := x_neg c_2 hf
        refine EX.neg c_2 ?_
        refine EX.bd (H.gR rfl ta0 (by decide) (by decide) (by decide)) ?_
        have t_3 := H.tyR rfl ta0 (ci := 7) (k := 2) (by decide) (by decide) (by decide)
        obtain ⟨a_6, ea_6, hf⟩ := x_bind hf
        have Hc_ := H.cv ea_6 t_3 (by decide)
        obtain ⟨r_5, er_5, hf⟩ := x_bind hf
        obtain ⟨h_4, eh_4, H, E_⟩ := g104_ok H ea_6 t_3 er_5
        refine EX.bd Hc_ ?_
        refine EX.bd eh_4 ?_
        dsimp only
        replace ta0 := ta0.up E_
        replace t_3 := t_3.up E_
        replace E := E.tr E_
        by_cases c_7 : r_5.1 = 0
        · replace hf := x_pos c_7 hf
          refine EX.pos c_7 ?_
          refine EX.bd (H.gR rfl ta0 (by decide) (by decide) (by decide)) ?_
          have t_8 := H.tyR rfl ta0 (ci := 7) (k := 2) (by decide) (by decide) (by decide)
          obtain ⟨a_11, ea_11, hf⟩ := x_bind hf
          have Hc_ := H.cv ea_11 t_8 (by decide)
          obtain ⟨r_10, er_10, hf⟩ := x_bind hf
          obtain ⟨h_9, eh_9, H, E_⟩ := g104_ok H ea_11 t_8 er_10
          refine EX.bd Hc_ ?_
          refine EX.bd eh_9 ?_
          dsimp only
          replace ta0 := ta0.up E_
          replace t_8 := t_8.up E_
          replace t_3 := t_3.up E_
          replace E := E.tr E_
          by_cases c_12 : r_10.1 = 0
          · replace hf := x_pos c_12 hf
            refine EX.pos c_12 ?_
            have Hc_ := H.cv rfl ta0 (by decide)
            obtain ⟨r_14, er_14, hf⟩ := x_bind hf
            obtain ⟨h_13, eh_13, H, E_, t_15⟩ := g75_ok H rfl ta0 er_14
            refine EX.bd Hc_ ?_
            refine EX.bd eh_13 ?_
            dsimp only
            replace ta0 := ta0.up E_
            replace t_8 := t_8.up E_
            replace t_3 := t_3.up E_
            replace E := E.tr E_
            exact EX.uC E (gj74_85_ok (k16 := (gl74_16 n)) (f16 := (l74_16 n)) ih H ta0 t_15 hf)
          · replace hf := x_neg c_12 hf
            refine EX.neg c_12 ?_
            have Hc_ := H.cv rfl ta0 (by decide)
            obtain ⟨r_17, er_17, hf⟩ := x_bind hf
            obtain ⟨h_16, eh_16, H, E_, t_18⟩ := g79_ok H rfl ta0 er_17
            refine EX.bd Hc_ ?_
            refine EX.bd eh_16 ?_
            dsimp only
            replace ta0 := ta0.up E_
            replace t_8 := t_8.up E_
            replace t_3 := t_3.up E_
            replace E := E.tr E_
            exact EX.uC E (gj74_85_ok (k16 := (gl74_16 n)) (f16 := (l74_16 n)) ih H ta0 t_18 hf)
        · replace hf := x_neg c_7 hf
          refine EX.neg c_7 ?_
          have Hc_ := H.cv rfl ta0 (by decide)
          obtain ⟨r_20, er_20, hf⟩ := x_bind hf
          obtain ⟨h_19, eh_19, H, E_, t_21⟩ := g78_ok H rfl ta0 er_20
          refine EX.bd Hc_ ?_
          refine EX.bd eh_19 ?_
          dsimp only
          replace ta0 := ta0.up E_
          replace t_3 := t_3.up E_
          replace E := E.tr E_
          exact EX.uC E (gj74_85_ok (k16 := (gl74_16 n)) (f16 := (l74_16 n)) ih H ta0 t_21 hf)
theorem g74_ok {h : xH} {C : xC} {o0 : Option Nat} {a0 : Nat} {x1 : Int32} {x2 : Int32} {r : xC} (H : WH h C) (e0 : o0 = some a0) (ta0 : tR C o0 7) (hf : g74 a0 x1 x2 C = some r) : EX (fn74 o0 x1 x2 h) (fun z => z) (QC C r) := by
  subst e0
  have E := Ext.rfl' (C := C)
  unfold g74 at hf
  unfold fn74
  refine EX.bd (H.gR rfl ta0 (by decide) (by decide) (by decide)) ?_
  have t_1 := H.tyR rfl ta0 (ci := 7) (k := 2) (by decide) (by decide) (by decide)
  obtain ⟨a_4, ea_4, hf⟩ := x_bind hf
  have Hc_ := H.cv ea_4 t_1 (by decide)
  obtain ⟨r_3, er_3, hf⟩ := x_bind hf
  obtain ⟨h_2, eh_2, H, E_⟩ := g106_ok H ea_4 t_1 er_3
  refine EX.bd Hc_ ?_
  refine EX.bd eh_2 ?_
  dsimp only
  replace ta0 := ta0.up E_
  replace t_1 := t_1.up E_
  replace E := E.tr E_
  exact EX.uC E (gl74_16_ok xFuel H ta0 hf)
end
section
theorem gj67_129_ok {h : xH} {C : xC} {a0 : Nat} {x1 : Int32} {x2 : Int32} {x3 : Int32} {x4 : Int32} {x5 : Int32} {r : xC} (H : WH h C) (ta0 : tR C (some a0) 7) (hf : gj67_129 a0 x1 x2 x3 x4 x5 C = some r) : EX (j67_129 (some a0) x1 x2 x3 x4 x5 h) (fun z => z) (QC C r) := by
  have E := Ext.rfl' (C := C)
  unfold gj67_129 at hf
  unfold j67_129
  obtain rfl := Option.some.inj hf
  exact ⟨_, rfl, H, E⟩
theorem gj67_89_ok {h : xH} {C : xC} {a0 : Nat} {x1 : Int32} {x2 : Int32} {x3 : Int32} {x4 : Int32} {x5 : Int32} {r : xC} (H : WH h C) (ta0 : tR C (some a0) 7) (hf : gj67_89 a0 x1 x2 x3 x4 x5 C = some r) : EX (j67_89 (some a0) x1 x2 x3 x4 x5 h) (fun z => z) (QC C r) := by
  have E := Ext.rfl' (C := C)
  unfold gj67_89 at hf
  unfold j67_89
  have Hc_ := H.cv rfl ta0 (by decide)
  obtain ⟨C_2, eC_2, hf⟩ := x_bind hf
  obtain ⟨h_1, eh_1, H, E_⟩ := g66_ok H rfl ta0 eC_2
  refine EX.bd Hc_ ?_
  refine EX.bd eh_1 ?_
  replace ta0 := ta0.up E_
  replace E := E.tr E_
  refine EX.bd (H.gR rfl ta0 (by decide) (by decide) (by decide)) ?_
  have t_3 := H.tyR rfl ta0 (ci := 7) (k := 3) (by decide) (by decide) (by decide)
  by_cases c_4 : (cR C_2 a0 3) = none
  · replace hf := x_pos c_4 hf
    refine EX.pos c_4 ?_
    exact EX.uC E (gj67_129_ok H ta0 hf)
  · replace hf := x_neg c_4 hf
    refine EX.neg c_4 ?_
    refine EX.bd (H.gR rfl ta0 (by decide) (by decide) (by decide)) ?_
    obtain ⟨a_7, ea_7, hf⟩ := x_bind hf
    obtain ⟨C_5, eC_5, hf⟩ := x_bind hf
    obtain ⟨h_6, eh_6, H, E_⟩ := H.pI ea_7 t_3 (by decide) (by decide) rfl (xfit_int _) eC_5
    refine EX.bd eh_6 ?_
    replace t_3 := t_3.up E_
    replace ta0 := ta0.up E_
    replace E := E.tr E_
    refine EX.bd (H.gR rfl ta0 (by decide) (by decide) (by decide)) ?_
    have t_8 := H.tyR rfl ta0 (ci := 7) (k := 3) (by decide) (by decide) (by decide)
    by_cases c_11 : x4 &&& 1 = x4
    · replace hf := x_pos c_11 hf
      obtain ⟨a_12, ea_12, hf⟩ := x_bind hf
      obtain ⟨C_9, eC_9, hf⟩ := x_bind hf
      obtain ⟨h_10, eh_10, H, E_⟩ := H.pI ea_12 t_8 (by decide) (by decide) rfl (xfit_b c_11) eC_9
      refine EX.bd eh_10 ?_
      replace t_3 := t_3.up E_
      replace ta0 := ta0.up E_
      replace t_8 := t_8.up E_
      replace E := E.tr E_
      have Hc_ := H.cv rfl ta0 (by decide)
      obtain ⟨C_14, eC_14, hf⟩ := x_bind hf
      obtain ⟨h_13, eh_13, H, E_⟩ := g74_ok H rfl ta0 eC_14
      refine EX.bd Hc_ ?_
      refine EX.bd eh_13 ?_
      replace t_3 := t_3.up E_
      replace ta0 := ta0.up E_
      replace t_8 := t_8.up E_
      replace E := E.tr E_
      exact EX.uC E (gj67_129_ok H ta0 hf)
    · replace hf := x_neg c_11 hf
      cases hf
theorem gj67_83_ok {h : xH} {C : xC} {a0 : Nat} {x1 : Int32} {x2 : Int32} {x3 : Int32} {x4 : Int32} {x5 : Int32} {r : xC} (H : WH h C) (ta0 : tR C (some a0) 7) (hf : gj67_83 a0 x1 x2 x3 x4 x5 C = some r) : EX (j67_83 (some a0) x1 x2 x3 x4 x5 h) (fun z => z) (QC C r) := by
  have E := Ext.rfl' (C := C)
  unfold gj67_83 at hf
  unfold j67_83
  have Hc_ := H.cv rfl ta0 (by decide)
  obtain ⟨C_2, eC_2, hf⟩ := x_bind hf
  obtain ⟨h_1, eh_1, H, E_⟩ := g62_ok H rfl ta0 eC_2
  refine EX.bd Hc_ ?_
  refine EX.bd eh_1 ?_
  replace ta0 := ta0.up E_
  replace E := E.tr E_
  exact EX.uC E (gj67_89_ok H ta0 hf)
theorem gj67_69_ok {h : xH} {C : xC} {a0 : Nat} {x1 : Int32} {x2 : Int32} {x3 : Int32} {x4 : Int32} {x5 : Int32} {r : xC} (H : WH h C) (ta0 : tR C (some a0) 7) (hf : gj67_69 a0 x1 x2 x3 x4 x5 C = some r) : EX (j67_69 (some a0) x1 x2 x3 x4 x5 h) (fun z => z) (QC C r) := by
  have E := Ext.rfl' (C := C)
  unfold gj67_69 at hf
  unfold j67_69
  by_cases c_1 : (x3 &&& 1) = 0
  · replace hf := x_pos c_1 hf
    refine EX.pos c_1 ?_
    by_cases c_2 : (x3 / 2) ≤ x5
    · replace hf := x_pos c_2 hf
      refine EX.pos c_2 ?_
      exact EX.uC E (gj67_89_ok H ta0 hf)
    · replace hf := x_neg c_2 hf
      refine EX.neg c_2 ?_
      exact EX.uC E (gj67_83_ok H ta0 hf)
  · replace hf := x_neg c_1 hf
    refine EX.neg c_1 ?_
    exact EX.uC E (gj67_83_ok H ta0 hf)
theorem gj67_54_ok {h : xH} {C : xC} {a0 : Nat} {x1 : Int32} {x2 : Int32} {x3 : Int32} {x4 : Int32} {s0 : Int32} {r : xC} (H : WH h C) (ta0 : tR C (some a0) 7) (hf : gj67_54 a0 x1 x2 x3 x4 s0 C = some r) : EX (j67_54 (some a0) x1 x2 x3 x4 s0 h) (fun z => z) (QC C r) := by
  have E := Ext.rfl' (C := C)
  unfold gj67_54 at hf
  unfold j67_54
  have Hc_ := H.cv rfl ta0 (by decide)
  obtain ⟨r_2, er_2, hf⟩ := x_bind hf
  obtain ⟨h_1, eh_1, H, E_⟩ := g65_ok H rfl ta0 er_2
  refine EX.bd Hc_ ?_
  refine EX.bd eh_1 ?_
  dsimp only
  replace ta0 := ta0.up E_
  replace E := E.tr E_
  by_cases c_3 : r_2.1 = 0
  · replace hf := x_pos c_3 hf
    refine EX.pos c_3 ?_
    exact EX.uC E (gj67_69_ok H ta0 hf)
  · replace hf := x_neg c_3 hf
    refine EX.neg c_3 ?_
    have Hc_ := H.cv rfl ta0 (by decide)
    obtain ⟨C_5, eC_5, hf⟩ := x_bind hf
    obtain ⟨h_4, eh_4, H, E_⟩ := g62_ok H rfl ta0 eC_5
    refine EX.bd Hc_ ?_
    refine EX.bd eh_4 ?_
    replace ta0 := ta0.up E_
    replace E := E.tr E_
    exact EX.uC E (gj67_69_ok H ta0 hf)
theorem gj67_30_ok {h : xH} {C : xC} {a0 : Nat} {x1 : Int32} {x2 : Int32} {x3 : Int32} {s0 : Int32} {r : xC} (H : WH h C) (ta0 : tR C (some a0) 7) (hf : gj67_30 a0 x1 x2 x3 s0 C = some r) : EX (j67_30 (some a0) x1 x2 x3 s0 h) (fun z => z) (QC C r) := by
  have E := Ext.rfl' (C := C)
  unfold gj67_30 at hf
  unfold j67_30
  by_cases c_1 : s0 = 0
  · replace hf := x_pos c_1 hf
    refine EX.pos c_1 ?_
    exact EX.uC E (gj67_54_ok H ta0 hf)
  · replace hf := x_neg c_1 hf
    refine EX.neg c_1 ?_
    refine EX.bd (H.gR rfl ta0 (by decide) (by decide) (by decide)) ?_
    have t_2 := H.tyR rfl ta0 (ci := 7) (k := 3) (by decide) (by decide) (by decide)
    obtain ⟨a_3, ea_3, hf⟩ := x_bind hf
    refine EX.bd (H.gI ea_3 t_2 (by decide) (by decide) rfl) ?_
    exact EX.uC E (gj67_54_ok H ta0 hf)
theorem gj67_29_ok {h : xH} {C : xC} {a0 : Nat} {x1 : Int32} {x2 : Int32} {x3 : Int32} {r : xC} (H : WH h C) (ta0 : tR C (some a0) 7) (hf : gj67_29 a0 x1 x2 x3 C = some r) : EX (j67_29 (some a0) x1 x2 x3 h) (fun z => z) (QC C r) := by
  have E := Ext.rfl' (C := C)
  unfold gj67_29 at hf
  unfold j67_29
  exact EX.uC E (gj67_30_ok H ta0 hf)
theorem g67_ok {h : xH} {C : xC} {o0 : Option Nat} {a0 : Nat} {x1 : Int32} {x2 : Int32} {x3 : Int32} {r : xC} (H : WH h C) (e0 : o0 = some a0) (ta0 : tR C o0 7) (hf : g67 a0 x1 x2 x3 C = some r) : EX (fn67 o0 x1 x2 x3 h) (fun z => z) (QC C r) := by
  subst e0
  have E := Ext.rfl' (C := C)
  unfold g67 at hf
  unfold fn67
  refine EX.bd (H.gR rfl ta0 (by decide) (by decide) (by decide)) ?_
  have t_1 := H.tyR rfl ta0 (ci := 7) (k := 3) (by decide) (by decide) (by decide)
  by_cases c_2 : (cR C a0 3) = none
  · replace hf := x_pos c_2 hf
    refine EX.pos c_2 ?_
    exact EX.uC E (gj67_29_ok H ta0 hf)
  · replace hf := x_neg c_2 hf
    refine EX.neg c_2 ?_
    refine EX.bd (H.gR rfl ta0 (by decide) (by decide) (by decide)) ?_
    obtain ⟨a_3, ea_3, hf⟩ := x_bind hf
    refine EX.bd (H.gI ea_3 t_1 (by decide) (by decide) rfl) ?_
    by_cases c_4 : (cI C a_3 1) = 1
    · replace hf := x_pos c_4 hf
      refine EX.pos c_4 ?_
      refine EX.bd (H.gI rfl ta0 (by decide) (by decide) rfl) ?_
      by_cases c_5 : (cI C a0 4) = 0
      · replace hf := x_pos c_5 hf
        refine EX.pos c_5 ?_
        exact EX.uC E (gj67_30_ok H ta0 hf)
      · replace hf := x_neg c_5 hf
        refine EX.neg c_5 ?_
        exact EX.uC E (gj67_29_ok H ta0 hf)
    · replace hf := x_neg c_4 hf
      refine EX.neg c_4 ?_
      exact EX.uC E (gj67_29_ok H ta0 hf)
end
section
theorem gj69_108_ok {h : xH} {C : xC} {a0 : Nat} {x1 : Int32} {x2 : Int32} {x3 : Int32} {x4 : Int32} {s0 : Int32} {r : (Int32 × xC)} (H : WH h C) (ta0 : tR C (some a0) 7) (hf : gj69_108 a0 x1 x2 x3 x4 s0 C = some r) : EX (j69_108 (some a0) x1 x2 x3 x4 s0 h) (fun z => (r.1, z)) (QC C r.2) := by
  have E := Ext.rfl' (C := C)
  unfold gj69_108 at hf
  unfold j69_108
  by_cases c_1 : s0 &&& 1 = s0
  · replace hf := x_pos c_1 hf
    refine EX.pos c_1 ?_
    obtain rfl := Option.some.inj hf
    exact ⟨_, rfl, H, E⟩
  · replace hf := x_neg c_1 hf
    cases hf
theorem gj69_36_ok {h : xH} {C : xC} {a0 : Nat} {x1 : Int32} {x2 : Int32} {r : (Int32 × xC)} (H : WH h C) (ta0 : tR C (some a0) 7) (hf : gj69_36 a0 x1 x2 C = some r) : EX (j69_36 (some a0) x1 x2 h) (fun z => (r.1, z)) (QC C r.2) := by
  have E := Ext.rfl' (C := C)
  unfold gj69_36 at hf
  unfold j69_36
  obtain rfl := Option.some.inj hf
  exact ⟨_, rfl, H, E⟩
theorem g69_ok {h : xH} {C : xC} {o0 : Option Nat} {a0 : Nat} {x1 : Int32} {x2 : Int32} {r : (Int32 × xC)} (H : WH h C) (e0 : o0 = some a0) (ta0 : tR C o0 7) (hf : g69 a0 x1 x2 C = some r) : EX (fn69 o0 x1 x2 h) (fun z => (r.1, z)) (QC C r.2) := by
  subst e0
  have E := Ext.rfl' (C := C)
  unfold g69 at hf
  unfold fn69
  refine EX.bd (H.gR rfl ta0 (by decide) (by decide) (by decide)) ?_
  have t_1 := H.tyR rfl ta0 (ci := 7) (k := 2) (by decide) (by decide) (by decide)
  obtain ⟨a_4, ea_4, hf⟩ := x_bind hf
  have Hc_ := H.cv ea_4 t_1 (by decide)
  obtain ⟨r_3, er_3, hf⟩ := x_bind hf
  obtain ⟨h_2, eh_2, H, E_⟩ := g104_ok H ea_4 t_1 er_3
  refine EX.bd Hc_ ?_
  refine EX.bd eh_2 ?_
  dsimp only
  replace ta0 := ta0.up E_
  replace t_1 := t_1.up E_
  replace E := E.tr E_
  by_cases c_5 : r_3.1 = 0
  · replace hf := x_pos c_5 hf
    refine EX.pos c_5 ?_
    exact EX.uC E (gj69_36_ok H ta0 hf)
  · replace hf := x_neg c_5 hf
    refine EX.neg c_5 ?_
    refine EX.bd (H.gR rfl ta0 (by decide) (by decide) (by decide)) ?_
    have t_6 := H.tyR rfl ta0 (ci := 7) (k := 1) (by decide) (by decide) (by decide)
    obtain ⟨a_7, ea_7, hf⟩ := x_bind hf
    refine EX.bd (H.gR ea_7 t_6 (by decide) (by decide) (by decide)) ?_
    have t_8 := H.tyR ea_7 t_6 (ci := 1) (k := 5) (by decide) (by decide) (by decide)
    by_cases c_9 : (cR r_3.2 a_7 5) = none
    · replace hf := x_pos c_9 hf
      refine EX.pos c_9 ?_
      exact EX.uC E (gj69_36_ok H ta0 hf)
    · replace hf := x_neg c_9 hf
      refine EX.neg c_9 ?_
      refine EX.bd (H.gR rfl ta0 (by decide) (by decide) (by decide)) ?_
      refine EX.bd (H.gR ea_7 t_6 (by decide) (by decide) (by decide)) ?_
      obtain ⟨a_12, ea_12, hf⟩ := x_bind hf
      have Hc_ := H.cv ea_12 t_8 (by decide)
      obtain ⟨r_11, er_11, hf⟩ := x_bind hf
      obtain ⟨h_10, eh_10, H, E_⟩ := g12_ok H ea_12 t_8 er_11
      refine EX.bd Hc_ ?_
      refine EX.bd eh_10 ?_
      dsimp only
      replace ta0 := ta0.up E_
      replace t_8 := t_8.up E_
      replace t_6 := t_6.up E_
      replace t_1 := t_1.up E_
      replace E := E.tr E_
      by_cases c_13 : r_11.1 = 0
      · replace hf := x_pos c_13 hf
        refine EX.pos c_13 ?_
        refine EX.bd (H.gR rfl ta0 (by decide) (by decide) (by decide)) ?_
        have t_14 := H.tyR rfl ta0 (ci := 7) (k := 2) (by decide) (by decide) (by decide)
        obtain ⟨v_15, ev_15, hf⟩ := x_bind hf
        refine EX.bd ev_15 ?_
        obtain ⟨a_18, ea_18, hf⟩ := x_bind hf
        have Hc_ := H.cv ea_18 t_14 (by decide)
        obtain ⟨r_17, er_17, hf⟩ := x_bind hf
        obtain ⟨h_16, eh_16, H, E_⟩ := g106_ok H ea_18 t_14 er_17
        refine EX.bd Hc_ ?_
        refine EX.bd eh_16 ?_
        dsimp only
        replace t_6 := t_6.up E_
        replace t_1 := t_1.up E_
        replace t_14 := t_14.up E_
        replace t_8 := t_8.up E_
        replace ta0 := ta0.up E_
        replace E := E.tr E_
        by_cases c_19 : x2 ≤ r_17.1
        · replace hf := x_pos c_19 hf
          refine EX.pos c_19 ?_
          refine EX.bd (H.gR rfl ta0 (by decide) (by decide) (by decide)) ?_
          have t_20 := H.tyR rfl ta0 (ci := 7) (k := 2) (by decide) (by decide) (by decide)
          refine EX.bd (H.gR rfl ta0 (by decide) (by decide) (by decide)) ?_
          obtain ⟨a_21, ea_21, hf⟩ := x_bind hf
          refine EX.bd (H.gI ea_21 t_20 (by decide) (by decide) rfl) ?_
          have Hc_ := H.cv ea_21 t_20 (by decide)
          obtain ⟨r_23, er_23, hf⟩ := x_bind hf
          obtain ⟨h_22, eh_22, H, E_⟩ := g105_ok H ea_21 t_20 er_23
          refine EX.bd Hc_ ?_
          refine EX.bd eh_22 ?_
          dsimp only
          replace t_6 := t_6.up E_
          replace t_1 := t_1.up E_
          replace t_14 := t_14.up E_
          replace t_8 := t_8.up E_
          replace ta0 := ta0.up E_
          replace t_20 := t_20.up E_
          replace E := E.tr E_
          refine EX.bd (H.gR rfl ta0 (by decide) (by decide) (by decide)) ?_
          have t_24 := H.tyR rfl ta0 (ci := 7) (k := 2) (by decide) (by decide) (by decide)
          obtain ⟨a_27, ea_27, hf⟩ := x_bind hf
          have Hc_ := H.cv ea_27 t_24 (by decide)
          obtain ⟨r_26, er_26, hf⟩ := x_bind hf
          obtain ⟨h_25, eh_25, H, E_⟩ := g106_ok H ea_27 t_24 er_26
          refine EX.bd Hc_ ?_
          refine EX.bd eh_25 ?_
          dsimp only
          replace t_6 := t_6.up E_
          replace t_1 := t_1.up E_
          replace t_24 := t_24.up E_
          replace t_14 := t_14.up E_
          replace t_8 := t_8.up E_
          replace ta0 := ta0.up E_
          replace t_20 := t_20.up E_
          replace E := E.tr E_
          have Hc_ := H.cv rfl ta0 (by decide)
          obtain ⟨r_29, er_29, hf⟩ := x_bind hf
          obtain ⟨h_28, eh_28, H, E_⟩ := g64_ok H rfl ta0 er_29
          refine EX.bd Hc_ ?_
          refine EX.bd eh_28 ?_
          dsimp only
          replace t_6 := t_6.up E_
          replace t_1 := t_1.up E_
          replace t_24 := t_24.up E_
          replace t_14 := t_14.up E_
          replace t_8 := t_8.up E_
          replace ta0 := ta0.up E_
          replace t_20 := t_20.up E_
          replace E := E.tr E_
          by_cases c_30 : r_29.1 = 3
          · replace hf := x_pos c_30 hf
            refine EX.pos c_30 ?_
            exact EX.uC E (gj69_108_ok H ta0 hf)
          · replace hf := x_neg c_30 hf
            refine EX.neg c_30 ?_
            exact EX.uC E (gj69_108_ok H ta0 hf)
        · replace hf := x_neg c_19 hf
          refine EX.neg c_19 ?_
          obtain rfl := Option.some.inj hf
          exact ⟨_, rfl, H, E⟩
      · replace hf := x_neg c_13 hf
        refine EX.neg c_13 ?_
        exact EX.uC E (gj69_36_ok H ta0 hf)
end
section
theorem gj68_128_ok {h : xH} {C : xC} {a0 : Nat} {x1 : Int32} {x2 : Int32} {x3 : Int32} {x4 : Int32} {r : xC} (H : WH h C) (ta0 : tR C (some a0) 7) (hf : gj68_128 a0 x1 x2 x3 x4 C = some r) : EX (j68_128 (some a0) x1 x2 x3 x4 h) (fun z => z) (QC C r) := by
  have E := Ext.rfl' (C := C)
  unfold gj68_128 at hf
  unfold j68_128
  obtain rfl := Option.some.inj hf
  exact ⟨_, rfl, H, E⟩
theorem gj68_117_ok {h : xH} {C : xC} {a0 : Nat} {x1 : Int32} {x2 : Int32} {x3 : Int32} {x4 : Int32} {r : xC} (H : WH h C) (ta0 : tR C (some a0) 7) (hf : gj68_117 a0 x1 x2 x3 x4 C = some r) : EX (j68_117 (some a0) x1 x2 x3 x4 h) (fun z => z) (QC C r) := by
  have E := Ext.rfl' (C := C)
  unfold gj68_117 at hf
  unfold j68_117
  by_cases c_1 : x4 = 0
  · replace hf := x_pos c_1 hf
    refine EX.pos c_1 ?_
    have Hc_ := H.cv rfl ta0 (by decide)
    obtain ⟨C_3, eC_3, hf⟩ := x_bind hf
    obtain ⟨h_2, eh_2, H, E_⟩ := g74_ok H rfl ta0 eC_3
    refine EX.bd Hc_ ?_
    refine EX.bd eh_2 ?_
    replace ta0 := ta0.up E_
    replace E := E.tr E_
    exact EX.uC E (gj68_128_ok H ta0 hf)
  · replace hf := x_neg c_1 hf
    refine EX.neg c_1 ?_
    exact EX.uC E (gj68_128_ok H ta0 hf)
theorem gj68_113_ok {h : xH} {C : xC} {a0 : Nat} {x1 : Int32} {x2 : Int32} {x3 : Int32} {x4 : Int32} {s0 : Nat} {s1 : Int32} {r : xC} (H : WH h C) (ta0 : tR C (some a0) 7) (ts0 : tR C (some s0) 7) (hf : gj68_113 a0 x1 x2 x3 x4 s0 s1 C = some r) : EX (j68_113 (some a0) x1 x2 x3 x4 (some s0) s1 h) (fun z => z) (QC C r) := by
  have E := Ext.rfl' (C := C)
  unfold gj68_113 at hf
  unfold j68_113
  have Hc_ := H.cv rfl ts0 (by decide)
  obtain ⟨C_2, eC_2, hf⟩ := x_bind hf
  obtain ⟨h_1, eh_1, H, E_⟩ := g66_ok H rfl ts0 eC_2
  refine EX.bd Hc_ ?_
  refine EX.bd eh_1 ?_
  replace ta0 := ta0.up E_
  replace ts0 := ts0.up E_
  replace E := E.tr E_
  exact EX.uC E (gj68_117_ok H ta0 hf)
theorem gj68_94_ok {h : xH} {C : xC} {a0 : Nat} {x1 : Int32} {x2 : Int32} {x3 : Int32} {x4 : Int32} {r : xC} (H : WH h C) (ta0 : tR C (some a0) 7) (hf : gj68_94 a0 x1 x2 x3 x4 C = some r) : EX (j68_94 (some a0) x1 x2 x3 x4 h) (fun z => z) (QC C r) := by
  have E := Ext.rfl' (C := C)
  unfold gj68_94 at hf
  unfold j68_94
  refine EX.bd (H.gI rfl ta0 (by decide) (by decide) rfl) ?_
  by_cases c_1 : (cI C a0 4) = 0
  · replace hf := x_pos c_1 hf
    refine EX.pos c_1 ?_
    exact EX.uC E (gj68_117_ok H ta0 hf)
  · replace hf := x_neg c_1 hf
    refine EX.neg c_1 ?_
    by_cases c_2 : x4 = 0
    · replace hf := x_pos c_2 hf
      refine EX.pos c_2 ?_
      exact EX.uC E (gj68_113_ok H ta0 ta0 hf)
    · replace hf := x_neg c_2 hf
      refine EX.neg c_2 ?_
      exact EX.uC E (gj68_113_ok H ta0 ta0 hf)
theorem gj68_69_ok {h : xH} {C : xC} {a0 : Nat} {x1 : Int32} {x2 : Int32} {x3 : Int32} {s0 : Int32} {r : xC} (H : WH h C) (ta0 : tR C (some a0) 7) (hf : gj68_69 a0 x1 x2 x3 s0 C = some r) : EX (j68_69 (some a0) x1 x2 x3 s0 h) (fun z => z) (QC C r) := by
  have E := Ext.rfl' (C := C)
  unfold gj68_69 at hf
  unfold j68_69
  by_cases c_1 : s0 = 0
  · replace hf := x_pos c_1 hf
    refine EX.pos c_1 ?_
    exact EX.uC E (gj68_94_ok H ta0 hf)
  · replace hf := x_neg c_1 hf
    refine EX.neg c_1 ?_
    refine EX.bd (H.gR rfl ta0 (by decide) (by decide) (by decide)) ?_
    have t_2 := H.tyR rfl ta0 (ci := 7) (k := 1) (by decide) (by decide) (by decide)
    obtain ⟨a_5, ea_5, hf⟩ := x_bind hf
    have Hc_ := H.cv ea_5 t_2 (by decide)
    obtain ⟨r_4, er_4, hf⟩ := x_bind hf
    obtain ⟨h_3, eh_3, H, E_, t_6⟩ := g9_ok H ea_5 t_2 er_4
    refine EX.bd Hc_ ?_
    refine EX.bd eh_3 ?_
    dsimp only
    replace ta0 := ta0.up E_
    replace t_2 := t_2.up E_
    replace E := E.tr E_
    by_cases c_7 : r_4.1 = none
    · replace hf := x_pos c_7 hf
      refine EX.pos c_7 ?_
      exact EX.uC E (gj68_94_ok H ta0 hf)
    · replace hf := x_neg c_7 hf
      refine EX.neg c_7 ?_
      have Hc_ := H.cv rfl ta0 (by decide)
      obtain ⟨C_9, eC_9, hf⟩ := x_bind hf
      obtain ⟨h_8, eh_8, H, E_⟩ := g62_ok H rfl ta0 eC_9
      refine EX.bd Hc_ ?_
      refine EX.bd eh_8 ?_
      replace ta0 := ta0.up E_
      replace t_2 := t_2.up E_
      replace E := E.tr E_
      exact EX.uC E (gj68_94_ok H ta0 hf)
theorem gj68_68_ok {h : xH} {C : xC} {a0 : Nat} {x1 : Int32} {x2 : Int32} {x3 : Int32} {r : xC} (H : WH h C) (ta0 : tR C (some a0) 7) (hf : gj68_68 a0 x1 x2 x3 C = some r) : EX (j68_68 (some a0) x1 x2 x3 h) (fun z => z) (QC C r) := by
  have E := Ext.rfl' (C := C)
  unfold gj68_68 at hf
  unfold j68_68
  exact EX.uC E (gj68_69_ok H ta0 hf)
theorem gj68_36_ok {h : xH} {C : xC} {a0 : Nat} {x1 : Int32} {x2 : Int32} {s0 : Int32} {r : xC} (H : WH h C) (ta0 : tR C (some a0) 7) (hf : gj68_36 a0 x1 x2 s0 C = some r) : EX (j68_36 (some a0) x1 x2 s0 h) (fun z => z) (QC C r) := by
  have E := Ext.rfl' (C := C)
  unfold gj68_36 at hf
  unfold j68_36
  by_cases c_1 : s0 = 0
  · replace hf := x_pos c_1 hf
    refine EX.pos c_1 ?_
    refine EX.bd (H.gI rfl ta0 (by decide) (by decide) rfl) ?_
    by_cases c_2 : (cI C a0 4) = 0
    · replace hf := x_pos c_2 hf
      refine EX.pos c_2 ?_
      exact EX.uC E (gj68_68_ok H ta0 hf)
    · replace hf := x_neg c_2 hf
      refine EX.neg c_2 ?_
      have Hc_ := H.cv rfl ta0 (by decide)
      obtain ⟨r_4, er_4, hf⟩ := x_bind hf
      obtain ⟨h_3, eh_3, H, E_⟩ := g69_ok H rfl ta0 er_4
      refine EX.bd Hc_ ?_
      refine EX.bd eh_3 ?_
      dsimp only
      replace ta0 := ta0.up E_
      replace E := E.tr E_
      by_cases c_5 : r_4.1 = 0
      · replace hf := x_pos c_5 hf
        refine EX.pos c_5 ?_
        exact EX.uC E (gj68_68_ok H ta0 hf)
      · replace hf := x_neg c_5 hf
        refine EX.neg c_5 ?_
        exact EX.uC E (gj68_69_ok H ta0 hf)
  · replace hf := x_neg c_1 hf
    refine EX.neg c_1 ?_
    have Hc_ := H.cv rfl ta0 (by decide)
    obtain ⟨C_7, eC_7, hf⟩ := x_bind hf
    obtain ⟨h_6, eh_6, H, E_⟩ := g62_ok H rfl ta0 eC_7
    refine EX.bd Hc_ ?_
    refine EX.bd eh_6 ?_
    replace ta0 := ta0.up E_
    replace E := E.tr E_
    obtain rfl := Option.some.inj hf
    exact ⟨_, rfl, H, E⟩
theorem gj68_35_ok {h : xH} {C : xC} {a0 : Nat} {x1 : Int32} {x2 : Int32} {r : xC} (H : WH h C) (ta0 : tR C (some a0) 7) (hf : gj68_35 a0 x1 x2 C = some r) : EX (j68_35 (some a0) x1 x2 h) (fun z => z) (QC C r) := by
  have E := Ext.rfl' (C := C)
  unfold gj68_35 at hf
  unfold j68_35
  exact EX.uC E (gj68_36_ok H ta0 hf)
theorem g68_ok {h : xH} {C : xC} {o0 : Option Nat} {a0 : Nat} {x1 : Int32} {x2 : Int32} {r : xC} (H : WH h C) (e0 : o0 = some a0) (ta0 : tR C o0 7) (hf : g68 a0 x1 x2 C = some r) : EX (fn68 o0 x1 x2 h) (fun z => z) (QC C r) := by
  subst e0
  have E := Ext.rfl' (C := C)
  unfold g68 at hf
  unfold fn68
  refine EX.bd (H.gI rfl ta0 (by decide) (by decide) rfl) ?_
  by_cases c_1 : (cI C a0 4) = 0
  · replace hf := x_pos c_1 hf
    refine EX.pos c_1 ?_
    refine EX.bd (H.gR rfl ta0 (by decide) (by decide) (by decide)) ?_
    have t_2 := H.tyR rfl ta0 (ci := 7) (k := 3) (by decide) (by decide) (by decide)
    by_cases c_3 : (cR C a0 3) = none
    · replace hf := x_pos c_3 hf
      refine EX.pos c_3 ?_
      exact EX.uC E (gj68_35_ok H ta0 hf)
    · replace hf := x_neg c_3 hf
      refine EX.neg c_3 ?_
      refine EX.bd (H.gR rfl ta0 (by decide) (by decide) (by decide)) ?_
      obtain ⟨a_6, ea_6, hf⟩ := x_bind hf
      have Hc_ := H.cv ea_6 t_2 (by decide)
      obtain ⟨r_5, er_5, hf⟩ := x_bind hf
      obtain ⟨h_4, eh_4, H, E_⟩ := g2_ok H ea_6 t_2 er_5
      refine EX.bd Hc_ ?_
      refine EX.bd eh_4 ?_
      dsimp only
      replace ta0 := ta0.up E_
      replace t_2 := t_2.up E_
      replace E := E.tr E_
      by_cases c_7 : r_5.1 = 0
      · replace hf := x_pos c_7 hf
        refine EX.pos c_7 ?_
        exact EX.uC E (gj68_35_ok H ta0 hf)
      · replace hf := x_neg c_7 hf
        refine EX.neg c_7 ?_
        exact EX.uC E (gj68_36_ok H ta0 hf)
  · replace hf := x_neg c_1 hf
    refine EX.neg c_1 ?_
    have Hc_ := H.cv rfl ta0 (by decide)
    obtain ⟨r_9, er_9, hf⟩ := x_bind hf
    obtain ⟨h_8, eh_8, H, E_⟩ := g65_ok H rfl ta0 er_9
    refine EX.bd Hc_ ?_
    refine EX.bd eh_8 ?_
    dsimp only
    replace ta0 := ta0.up E_
    replace E := E.tr E_
    exact EX.uC E (gj68_36_ok H ta0 hf)
end
section
theorem gj70_40_ok {k2 : Nat → Int32 → Int32 → Int32 → xC → Option (Int32 × xC)} {f2 : Option Nat → Int32 → Int32 → Int32 → xH → Option (Int32 × xH)} (hk2 : ∀ {h : xH} {C : xC} {a0 : Nat} {x1 : Int32} {x2 : Int32} {x3 : Int32} {r : (Int32 × xC)}, WH h C → tR C (some a0) 7 → k2 a0 x1 x2 x3 C = some r → EX (f2 (some a0) x1 x2 x3 h) (fun z => (r.1, z)) (QC C r.2)) {h : xH} {C : xC} {a0 : Nat} {x1 : Int32} {x2 : Int32} {x3 : Int32} {q4 : Nat} {r : (Int32 × xC)} (H : WH h C) (ta0 : tR C (some a0) 7) (hf : gj70_40 k2 a0 x1 x2 x3 q4 C = some r) : EX (j70_40 f2 (some a0) x1 x2 x3 q4 h) (fun z => (r.1, z)) (QC C r.2) := by
  have E := Ext.rfl' (C := C)
  unfold gj70_40 at hf
  unfold j70_40
  exact EX.uC E (hk2 H ta0 hf)
theorem gl70_2_ok : ∀ (n : Nat) {h : xH} {C : xC} {a0 : Nat} {x1 : Int32} {x2 : Int32} {x3 : Int32} {r : (Int32 × xC)} (H : WH h C) (ta0 : tR C (some a0) 7), gl70_2 n a0 x1 x2 x3 C = some r → EX (l70_2 n (some a0) x1 x2 x3 h) (fun z => (r.1, z)) (QC C r.2) := by
  intro n
  induction n with
  | zero => intros; rename_i hf; cases hf
  | succ n ih =>
    intro h C a0 x1 x2 x3 r H ta0 hf
    have E := Ext.rfl' (C := C)
    replace hf : ((if 6 < x3 then some ((-1), C) else (g139 x3 C).bind fun r_3 => (xqL r_3.1).bind fun v_4 => (if v_4 = (x2 - x1) then (cR r_3.2 a0 2).bind fun a_9 => (g104 a_9 x1 r_3.1 r_3.2).bind fun r_8 => (if r_8.1 = 0 then gj70_40 (gl70_2 n) a0 x1 x2 x3 r_3.1 r_8.2 else some (x3, r_8.2)) else gj70_40 (gl70_2 n) a0 x1 x2 x3 r_3.1 r_3.2))) = some r := hf
    unfold l70_2
    by_cases c_1 : 6 < x3
    · replace hf := x_pos c_1 hf
      refine EX.pos c_1 ?_
      obtain rfl := Option.some.inj hf
      exact ⟨_, rfl, H, E⟩
    · replace hf := x_neg c_1 hf
      refine EX.neg c_1 ?_
      obtain ⟨r_3, er_3, hf⟩ := x_bind hf
      obtain ⟨h_2, eh_2, H, E_⟩ := g139_ok H er_3
      refine EX.bd eh_2 ?_
      dsimp only
      replace ta0 := ta0.up E_
      replace E := E.tr E_
      obtain ⟨v_4, ev_4, hf⟩ := x_bind hf
      refine EX.bd ev_4 ?_
      by_cases c_5 : v_4 = (x2 - x1)
      · replace hf := x_pos c_5 hf
        refine EX.pos c_5 ?_
        refine EX.bd (H.gR rfl ta0 (by decide) (by decide) (by decide)) ?_
        have t_6 := H.tyR rfl ta0 (ci := 7) (k := 2) (by decide) (by decide) (by decide)
        obtain ⟨a_9, ea_9, hf⟩ := x_bind hf
        have Hc_ := H.cv ea_9 t_6 (by decide)
        obtain ⟨r_8, er_8, hf⟩ := x_bind hf
        obtain ⟨h_7, eh_7, H, E_⟩ := g104_ok H ea_9 t_6 er_8
        refine EX.bd Hc_ ?_
        refine EX.bd eh_7 ?_
        dsimp only
        replace ta0 := ta0.up E_
        replace t_6 := t_6.up E_
        replace E := E.tr E_
        by_cases c_10 : r_8.1 = 0
        · replace hf := x_pos c_10 hf
          refine EX.pos c_10 ?_
          exact EX.uC E (gj70_40_ok (k2 := (gl70_2 n)) (f2 := (l70_2 n)) ih H ta0 hf)
        · replace hf := x_neg c_10 hf
          refine EX.neg c_10 ?_
          obtain rfl := Option.some.inj hf
          exact ⟨_, rfl, H, E⟩
      · replace hf := x_neg c_5 hf
        refine EX.neg c_5 ?_
        exact EX.uC E (gj70_40_ok (k2 := (gl70_2 n)) (f2 := (l70_2 n)) ih H ta0 hf)
theorem g70_ok {h : xH} {C : xC} {o0 : Option Nat} {a0 : Nat} {x1 : Int32} {x2 : Int32} {r : (Int32 × xC)} (H : WH h C) (e0 : o0 = some a0) (ta0 : tR C o0 7) (hf : g70 a0 x1 x2 C = some r) : EX (fn70 o0 x1 x2 h) (fun z => (r.1, z)) (QC C r.2) := by
  subst e0
  have E := Ext.rfl' (C := C)
  unfold g70 at hf
  unfold fn70
  exact EX.uC E (gl70_2_ok xFuel H ta0 hf)
end
section
theorem g73_ok {h : xH} {C : xC} {o0 : Option Nat} {a0 : Nat} {x1 : Int32} {x2 : Int32} {r : (Int32 × xC)} (H : WH h C) (e0 : o0 = some a0) (ta0 : tR C o0 7) (hf : g73 a0 x1 x2 C = some r) : EX (fn73 o0 x1 x2 h) (fun z => (r.1, z)) (QC C r.2) := by
  subst e0
  have E := Ext.rfl' (C := C)
  unfold g73 at hf
  unfold fn73
  refine EX.bd (H.gR rfl ta0 (by decide) (by decide) (by decide)) ?_
  have t_1 := H.tyR rfl ta0 (ci := 7) (k := 0) (by decide) (by decide) (by decide)
  obtain ⟨a_4, ea_4, hf⟩ := x_bind hf
  have Hc_ := H.cv ea_4 t_1 (by decide)
  obtain ⟨C_3, eC_3, hf⟩ := x_bind hf
  obtain ⟨h_2, eh_2, H, E_⟩ := g101_ok H ea_4 t_1 eC_3
  refine EX.bd Hc_ ?_
  refine EX.bd eh_2 ?_
  replace t_1 := t_1.up E_
  replace ta0 := ta0.up E_
  replace E := E.tr E_
  refine EX.bd (H.gR rfl ta0 (by decide) (by decide) (by decide)) ?_
  have t_5 := H.tyR rfl ta0 (ci := 7) (k := 0) (by decide) (by decide) (by decide)
  refine EX.bd (H.gR rfl ta0 (by decide) (by decide) (by decide)) ?_
  have t_6 := H.tyR rfl ta0 (ci := 7) (k := 2) (by decide) (by decide) (by decide)
  obtain ⟨a_9, ea_9, hf⟩ := x_bind hf
  have Hc_ := H.cv ea_9 t_5 (by decide)
  obtain ⟨C_8, eC_8, hf⟩ := x_bind hf
  obtain ⟨h_7, eh_7, H, E_⟩ := g100_ok H ea_9 t_5 t_6 eC_8
  refine EX.bd Hc_ ?_
  refine EX.bd eh_7 ?_
  replace t_1 := t_1.up E_
  replace t_5 := t_5.up E_
  replace ta0 := ta0.up E_
  replace E := E.tr E_
  refine EX.bd (H.gR rfl ta0 (by decide) (by decide) (by decide)) ?_
  have t_10 := H.tyR rfl ta0 (ci := 7) (k := 1) (by decide) (by decide) (by decide)
  refine EX.bd (H.gR rfl ta0 (by decide) (by decide) (by decide)) ?_
  have t_11 := H.tyR rfl ta0 (ci := 7) (k := 0) (by decide) (by decide) (by decide)
  obtain ⟨a_14, ea_14, hf⟩ := x_bind hf
  have Hc_ := H.cv ea_14 t_10 (by decide)
  obtain ⟨r_13, er_13, hf⟩ := x_bind hf
  obtain ⟨h_12, eh_12, H, E_⟩ := g10_ok H ea_14 t_10 t_11 er_13
  refine EX.bd Hc_ ?_
  refine EX.bd eh_12 ?_
  dsimp only
  replace t_1 := t_1.up E_
  replace t_5 := t_5.up E_
  replace ta0 := ta0.up E_
  replace t_10 := t_10.up E_
  replace E := E.tr E_
  by_cases c_15 : r_13.1 &&& 1 = r_13.1
  · replace hf := x_pos c_15 hf
    refine EX.pos c_15 ?_
    obtain rfl := Option.some.inj hf
    exact ⟨_, rfl, H, E⟩
  · replace hf := x_neg c_15 hf
    cases hf
end
section
theorem gl110_2_ok : ∀ (n : Nat) {h : xH} {C : xC} {a0 : Nat} {x1 : Int32} {x2 : Int32} {x3 : Int32} {r : (Int32 × xC)} (H : WH h C) (ta0 : tR C (some a0) 9), gl110_2 n a0 x1 x2 x3 C = some r → EX (l110_2 n (some a0) x1 x2 x3 h) (fun z => (r.1, z)) (QC C r.2) := by
  intro n
  induction n with
  | zero => intros; rename_i hf; cases hf
  | succ n ih =>
    intro h C a0 x1 x2 x3 r H ta0 hf
    have E := Ext.rfl' (C := C)
    replace hf : ((if x2 ≤ x3 then (g135 (x2 - x1) 1 4 C).bind fun r_3 => (if r_3.1 &&& 1 = r_3.1 then some (r_3.1, r_3.2) else none) else (g96 a0 x3 C).bind fun r_6 => (g136 r_6.1 r_6.2).bind fun r_8 => (if r_8.1 = 0 then some (0, r_8.2) else gl110_2 n a0 x1 x2 (x3 + 1) r_8.2))) = some r := hf
    unfold l110_2
    by_cases c_1 : x2 ≤ x3
    · replace hf := x_pos c_1 hf
      refine EX.pos c_1 ?_
      obtain ⟨r_3, er_3, hf⟩ := x_bind hf
      obtain ⟨h_2, eh_2, H, E_⟩ := g135_ok H er_3
      refine EX.bd eh_2 ?_
      dsimp only
      replace ta0 := ta0.up E_
      replace E := E.tr E_
      by_cases c_4 : r_3.1 &&& 1 = r_3.1
      · replace hf := x_pos c_4 hf
        refine EX.pos c_4 ?_
        obtain rfl := Option.some.inj hf
        exact ⟨_, rfl, H, E⟩
      · replace hf := x_neg c_4 hf
        cases hf
    · replace hf := x_neg c_1 hf
      refine EX.neg c_1 ?_
      have Hc_ := H.cv rfl ta0 (by decide)
      obtain ⟨r_6, er_6, hf⟩ := x_bind hf
      obtain ⟨h_5, eh_5, H, E_⟩ := g96_ok H rfl ta0 er_6
      refine EX.bd Hc_ ?_
      refine EX.bd eh_5 ?_
      dsimp only
      replace ta0 := ta0.up E_
      replace E := E.tr E_
      obtain ⟨r_8, er_8, hf⟩ := x_bind hf
      obtain ⟨h_7, eh_7, H, E_⟩ := g136_ok H er_8
      refine EX.bd eh_7 ?_
      dsimp only
      replace ta0 := ta0.up E_
      replace E := E.tr E_
      by_cases c_9 : r_8.1 = 0
      · replace hf := x_pos c_9 hf
        refine EX.pos c_9 ?_
        obtain rfl := Option.some.inj hf
        exact ⟨_, rfl, H, E⟩
      · replace hf := x_neg c_9 hf
        refine EX.neg c_9 ?_
        exact EX.uC E (ih H ta0 hf)
theorem g110_ok {h : xH} {C : xC} {o0 : Option Nat} {a0 : Nat} {x1 : Int32} {x2 : Int32} {r : (Int32 × xC)} (H : WH h C) (e0 : o0 = some a0) (ta0 : tR C o0 9) (hf : g110 a0 x1 x2 C = some r) : EX (fn110 o0 x1 x2 h) (fun z => (r.1, z)) (QC C r.2) := by
  subst e0
  have E := Ext.rfl' (C := C)
  unfold g110 at hf
  unfold fn110
  exact EX.uC E (gl110_2_ok xFuel H ta0 hf)
end
section
theorem gj72_130_ok {h : xH} {C : xC} {a0 : Nat} {x1 : Int32} {x2 : Int32} {x3 : Int32} {x4 : Int32} {x5 : Int32} {x6 : Int32} {r : (Int32 × xC)} (H : WH h C) (ta0 : tR C (some a0) 7) (hf : gj72_130 a0 x1 x2 x3 x4 x5 x6 C = some r) : EX (j72_130 (some a0) x1 x2 x3 x4 x5 x6 h) (fun z => (r.1, z)) (QC C r.2) := by
  have E := Ext.rfl' (C := C)
  unfold gj72_130 at hf
  unfold j72_130
  refine EX.bd (H.gR rfl ta0 (by decide) (by decide) (by decide)) ?_
  have t_1 := H.tyR rfl ta0 (ci := 7) (k := 3) (by decide) (by decide) (by decide)
  obtain ⟨a_4, ea_4, hf⟩ := x_bind hf
  obtain ⟨C_2, eC_2, hf⟩ := x_bind hf
  obtain ⟨h_3, eh_3, H, E_⟩ := H.pI ea_4 t_1 (by decide) (by decide) rfl (xfit_int _) eC_2
  refine EX.bd eh_3 ?_
  replace ta0 := ta0.up E_
  replace t_1 := t_1.up E_
  replace E := E.tr E_
  refine EX.bd (H.gR rfl ta0 (by decide) (by decide) (by decide)) ?_
  have t_5 := H.tyR rfl ta0 (ci := 7) (k := 3) (by decide) (by decide) (by decide)
  obtain ⟨a_8, ea_8, hf⟩ := x_bind hf
  obtain ⟨C_6, eC_6, hf⟩ := x_bind hf
  obtain ⟨h_7, eh_7, H, E_⟩ := H.pI ea_8 t_5 (by decide) (by decide) rfl (xfit_int _) eC_6
  refine EX.bd eh_7 ?_
  replace t_5 := t_5.up E_
  replace ta0 := ta0.up E_
  replace t_1 := t_1.up E_
  replace E := E.tr E_
  obtain rfl := Option.some.inj hf
  exact ⟨_, rfl, H, E⟩
theorem gj72_93_ok {h : xH} {C : xC} {a0 : Nat} {x1 : Int32} {x2 : Int32} {x3 : Int32} {x4 : Int32} {x5 : Int32} {x6 : Int32} {r : (Int32 × xC)} (H : WH h C) (ta0 : tR C (some a0) 7) (hf : gj72_93 a0 x1 x2 x3 x4 x5 x6 C = some r) : EX (j72_93 (some a0) x1 x2 x3 x4 x5 x6 h) (fun z => (r.1, z)) (QC C r.2) := by
  have E := Ext.rfl' (C := C)
  unfold gj72_93 at hf
  unfold j72_93
  have Hc_ := H.cv rfl ta0 (by decide)
  obtain ⟨C_2, eC_2, hf⟩ := x_bind hf
  obtain ⟨h_1, eh_1, H, E_⟩ := g62_ok H rfl ta0 eC_2
  refine EX.bd Hc_ ?_
  refine EX.bd eh_1 ?_
  replace ta0 := ta0.up E_
  replace E := E.tr E_
  obtain rfl := Option.some.inj hf
  exact ⟨_, rfl, H, E⟩
theorem gj72_81_ok {h : xH} {C : xC} {a0 : Nat} {x1 : Int32} {x2 : Int32} {x3 : Int32} {x4 : Int32} {x5 : Int32} {x6 : Int32} {r : (Int32 × xC)} (H : WH h C) (ta0 : tR C (some a0) 7) (hf : gj72_81 a0 x1 x2 x3 x4 x5 x6 C = some r) : EX (j72_81 (some a0) x1 x2 x3 x4 x5 x6 h) (fun z => (r.1, z)) (QC C r.2) := by
  have E := Ext.rfl' (C := C)
  unfold gj72_81 at hf
  unfold j72_81
  by_cases c_1 : x6 = 0
  · replace hf := x_pos c_1 hf
    refine EX.pos c_1 ?_
    exact EX.uC E (gj72_93_ok H ta0 hf)
  · replace hf := x_neg c_1 hf
    refine EX.neg c_1 ?_
    refine EX.bd (H.gR rfl ta0 (by decide) (by decide) (by decide)) ?_
    have t_2 := H.tyR rfl ta0 (ci := 7) (k := 3) (by decide) (by decide) (by decide)
    by_cases c_3 : (cR C a0 3) = none
    · replace hf := x_pos c_3 hf
      refine EX.pos c_3 ?_
      exact EX.uC E (gj72_93_ok H ta0 hf)
    · replace hf := x_neg c_3 hf
      refine EX.neg c_3 ?_
      by_cases c_4 : x1 = 2
      · replace hf := x_pos c_4 hf
        refine EX.pos c_4 ?_
        have Hc_ := H.cv rfl ta0 (by decide)
        obtain ⟨r_6, er_6, hf⟩ := x_bind hf
        obtain ⟨h_5, eh_5, H, E_⟩ := g73_ok H rfl ta0 er_6
        refine EX.bd Hc_ ?_
        refine EX.bd eh_5 ?_
        dsimp only
        replace ta0 := ta0.up E_
        replace E := E.tr E_
        by_cases c_7 : r_6.1 = 0
        · replace hf := x_pos c_7 hf
          refine EX.pos c_7 ?_
          exact EX.uC E (gj72_130_ok H ta0 hf)
        · replace hf := x_neg c_7 hf
          refine EX.neg c_7 ?_
          refine EX.bd (H.gR rfl ta0 (by decide) (by decide) (by decide)) ?_
          have t_8 := H.tyR rfl ta0 (ci := 7) (k := 3) (by decide) (by decide) (by decide)
          obtain ⟨a_9, ea_9, hf⟩ := x_bind hf
          refine EX.bd (H.gI ea_9 t_8 (by decide) (by decide) rfl) ?_
          have Hc_ := H.cv rfl ta0 (by decide)
          obtain ⟨C_11, eC_11, hf⟩ := x_bind hf
          obtain ⟨h_10, eh_10, H, E_⟩ := g62_ok H rfl ta0 eC_11
          refine EX.bd Hc_ ?_
          refine EX.bd eh_10 ?_
          replace t_8 := t_8.up E_
          replace ta0 := ta0.up E_
          replace E := E.tr E_
          exact EX.uC E (gj72_130_ok H ta0 hf)
      · replace hf := x_neg c_4 hf
        refine EX.neg c_4 ?_
        exact EX.uC E (gj72_130_ok H ta0 hf)
theorem g72_ok {h : xH} {C : xC} {o0 : Option Nat} {a0 : Nat} {x1 : Int32} {x2 : Int32} {x3 : Int32} {r : (Int32 × xC)} (H : WH h C) (e0 : o0 = some a0) (ta0 : tR C o0 7) (hf : g72 a0 x1 x2 x3 C = some r) : EX (fn72 o0 x1 x2 x3 h) (fun z => (r.1, z)) (QC C r.2) := by
  subst e0
  have E := Ext.rfl' (C := C)
  unfold g72 at hf
  unfold fn72
  refine EX.bd (H.gR rfl ta0 (by decide) (by decide) (by decide)) ?_
  have t_1 := H.tyR rfl ta0 (ci := 7) (k := 2) (by decide) (by decide) (by decide)
  obtain ⟨a_4, ea_4, hf⟩ := x_bind hf
  have Hc_ := H.cv ea_4 t_1 (by decide)
  obtain ⟨r_3, er_3, hf⟩ := x_bind hf
  obtain ⟨h_2, eh_2, H, E_⟩ := g106_ok H ea_4 t_1 er_3
  refine EX.bd Hc_ ?_
  refine EX.bd eh_2 ?_
  dsimp only
  replace ta0 := ta0.up E_
  replace t_1 := t_1.up E_
  replace E := E.tr E_
  refine EX.bd (H.gR rfl ta0 (by decide) (by decide) (by decide)) ?_
  have t_5 := H.tyR rfl ta0 (ci := 7) (k := 2) (by decide) (by decide) (by decide)
  obtain ⟨a_8, ea_8, hf⟩ := x_bind hf
  have Hc_ := H.cv ea_8 t_5 (by decide)
  obtain ⟨r_7, er_7, hf⟩ := x_bind hf
  obtain ⟨h_6, eh_6, H, E_⟩ := g105_ok H ea_8 t_5 er_7
  refine EX.bd Hc_ ?_
  refine EX.bd eh_6 ?_
  dsimp only
  replace ta0 := ta0.up E_
  replace t_5 := t_5.up E_
  replace t_1 := t_1.up E_
  replace E := E.tr E_
  by_cases c_9 : x1 = 2
  · replace hf := x_pos c_9 hf
    refine EX.pos c_9 ?_
    refine EX.bd (H.gR rfl ta0 (by decide) (by decide) (by decide)) ?_
    have t_10 := H.tyR rfl ta0 (ci := 7) (k := 2) (by decide) (by decide) (by decide)
    obtain ⟨a_13, ea_13, hf⟩ := x_bind hf
    have Hc_ := H.cv ea_13 t_10 (by decide)
    obtain ⟨r_12, er_12, hf⟩ := x_bind hf
    obtain ⟨h_11, eh_11, H, E_⟩ := g107_ok H ea_13 t_10 er_12
    refine EX.bd Hc_ ?_
    refine EX.bd eh_11 ?_
    dsimp only
    replace t_10 := t_10.up E_
    replace ta0 := ta0.up E_
    replace t_5 := t_5.up E_
    replace t_1 := t_1.up E_
    replace E := E.tr E_
    exact EX.uC E (gj72_81_ok H ta0 hf)
  · replace hf := x_neg c_9 hf
    refine EX.neg c_9 ?_
    by_cases c_14 : x1 = 6
    · replace hf := x_pos c_14 hf
      refine EX.pos c_14 ?_
      refine EX.bd (H.gR rfl ta0 (by decide) (by decide) (by decide)) ?_
      have t_15 := H.tyR rfl ta0 (ci := 7) (k := 2) (by decide) (by decide) (by decide)
      obtain ⟨a_18, ea_18, hf⟩ := x_bind hf
      have Hc_ := H.cv ea_18 t_15 (by decide)
      obtain ⟨r_17, er_17, hf⟩ := x_bind hf
      obtain ⟨h_16, eh_16, H, E_⟩ := g110_ok H ea_18 t_15 er_17
      refine EX.bd Hc_ ?_
      refine EX.bd eh_16 ?_
      dsimp only
      replace t_15 := t_15.up E_
      replace ta0 := ta0.up E_
      replace t_5 := t_5.up E_
      replace t_1 := t_1.up E_
      replace E := E.tr E_
      exact EX.uC E (gj72_81_ok H ta0 hf)
    · replace hf := x_neg c_14 hf
      refine EX.neg c_14 ?_
      refine EX.bd (H.gR rfl ta0 (by decide) (by decide) (by decide)) ?_
      have t_19 := H.tyR rfl ta0 (ci := 7) (k := 2) (by decide) (by decide) (by decide)
      obtain ⟨a_22, ea_22, hf⟩ := x_bind hf
      have Hc_ := H.cv ea_22 t_19 (by decide)
      obtain ⟨r_21, er_21, hf⟩ := x_bind hf
      obtain ⟨h_20, eh_20, H, E_⟩ := g109_ok H ea_22 t_19 er_21
      refine EX.bd Hc_ ?_
      refine EX.bd eh_20 ?_
      dsimp only
      replace t_19 := t_19.up E_
      replace ta0 := ta0.up E_
      replace t_5 := t_5.up E_
      replace t_1 := t_1.up E_
      replace E := E.tr E_
      exact EX.uC E (gj72_81_ok H ta0 hf)
end
