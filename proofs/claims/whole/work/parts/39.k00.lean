section
theorem g0_ok {h : xH} {C : xC} {o0 : Option Nat} {a0 : Nat} {r : xC} (H : WH h C) (e0 : o0 = some a0) (ta0 : tR C o0 0) (hf : g0 a0 C = some r) : EX (fn0 o0 h) (fun z => z) (QC C r) := by
  subst e0
  have E := Ext.rfl' (C := C)
  unfold g0 at hf
  unfold fn0
  refine EX.bdS ?_
  obtain rfl := Option.some.inj hf
  exact ⟨_, rfl, H, E⟩
end
section
theorem gj1_21_ok {h : xH} {C : xC} {a0 : Nat} {s0 : Int32} {r : (Int32 × xC)} (H : WH h C) (ta0 : tR C (some a0) 0) (hf : gj1_21 a0 s0 C = some r) : EX (j1_21 (some a0) s0 h) (fun z => (r.1, z)) (QC C r.2) := by
  have E := Ext.rfl' (C := C)
  unfold gj1_21 at hf
  unfold j1_21
  by_cases c_1 : s0 &&& 1 = s0
  · replace hf := x_pos c_1 hf
    refine EX.pos c_1 ?_
    obtain rfl := Option.some.inj hf
    exact ⟨_, rfl, H, E⟩
  · replace hf := x_neg c_1 hf
    cases hf
theorem gj1_16_ok {h : xH} {C : xC} {a0 : Nat} {r : (Int32 × xC)} (H : WH h C) (ta0 : tR C (some a0) 0) (hf : gj1_16 a0 C = some r) : EX (j1_16 (some a0) h) (fun z => (r.1, z)) (QC C r.2) := by
  have E := Ext.rfl' (C := C)
  unfold gj1_16 at hf
  unfold j1_16
  exact EX.uC E (gj1_21_ok H ta0 hf)
theorem g1_ok {h : xH} {C : xC} {o0 : Option Nat} {a0 : Nat} {r : (Int32 × xC)} (H : WH h C) (e0 : o0 = some a0) (ta0 : tR C o0 0) (hf : g1 a0 C = some r) : EX (fn1 o0 h) (fun z => (r.1, z)) (QC C r.2) := by
  subst e0
  have E := Ext.rfl' (C := C)
  unfold g1 at hf
  unfold fn1
  refine EX.bd (H.gI rfl ta0 (by decide) (by decide) rfl) ?_
  by_cases c_1 : (cI C a0 1) = 4
  · replace hf := x_pos c_1 hf
    refine EX.pos c_1 ?_
    exact EX.uC E (gj1_16_ok H ta0 hf)
  · replace hf := x_neg c_1 hf
    refine EX.neg c_1 ?_
    refine EX.bd (H.gI rfl ta0 (by decide) (by decide) rfl) ?_
    by_cases c_2 : (cI C a0 1) = 5
    · replace hf := x_pos c_2 hf
      refine EX.pos c_2 ?_
      exact EX.uC E (gj1_16_ok H ta0 hf)
    · replace hf := x_neg c_2 hf
      refine EX.neg c_2 ?_
      exact EX.uC E (gj1_21_ok H ta0 hf)
end
section
theorem gj2_22_ok {h : xH} {C : xC} {a0 : Nat} {s0 : Int32} {r : (Int32 × xC)} (H : WH h C) (ta0 : tR C (some a0) 0) (hf : gj2_22 a0 s0 C = some r) : EX (j2_22 (some a0) s0 h) (fun z => (r.1, z)) (QC C r.2) := by
  have E := Ext.rfl' (C := C)
  unfold gj2_22 at hf
  unfold j2_22
  by_cases c_1 : s0 &&& 1 = s0
  · replace hf := x_pos c_1 hf
    refine EX.pos c_1 ?_
    obtain rfl := Option.some.inj hf
    exact ⟨_, rfl, H, E⟩
  · replace hf := x_neg c_1 hf
    cases hf
theorem gj2_17_ok {h : xH} {C : xC} {a0 : Nat} {r : (Int32 × xC)} (H : WH h C) (ta0 : tR C (some a0) 0) (hf : gj2_17 a0 C = some r) : EX (j2_17 (some a0) h) (fun z => (r.1, z)) (QC C r.2) := by
  have E := Ext.rfl' (C := C)
  unfold gj2_17 at hf
  unfold j2_17
  exact EX.uC E (gj2_22_ok H ta0 hf)
theorem g2_ok {h : xH} {C : xC} {o0 : Option Nat} {a0 : Nat} {r : (Int32 × xC)} (H : WH h C) (e0 : o0 = some a0) (ta0 : tR C o0 0) (hf : g2 a0 C = some r) : EX (fn2 o0 h) (fun z => (r.1, z)) (QC C r.2) := by
  subst e0
  have E := Ext.rfl' (C := C)
  unfold g2 at hf
  unfold fn2
  refine EX.bd (H.gI rfl ta0 (by decide) (by decide) rfl) ?_
  by_cases c_1 : (cI C a0 1) = 5
  · replace hf := x_pos c_1 hf
    refine EX.pos c_1 ?_
    exact EX.uC E (gj2_17_ok H ta0 hf)
  · replace hf := x_neg c_1 hf
    refine EX.neg c_1 ?_
    refine EX.bd (H.gI rfl ta0 (by decide) (by decide) rfl) ?_
    by_cases c_2 : (cI C a0 1) = 6
    · replace hf := x_pos c_2 hf
      refine EX.pos c_2 ?_
      exact EX.uC E (gj2_17_ok H ta0 hf)
    · replace hf := x_neg c_2 hf
      refine EX.neg c_2 ?_
      exact EX.uC E (gj2_22_ok H ta0 hf)
end
section
theorem g59_ok {h : xH} {C : xC} {o0 : Option Nat} {a0 : Nat} {r : xC} (H : WH h C) (e0 : o0 = some a0) (ta0 : tR C o0 6) (hf : g59 a0 C = some r) : EX (fn59 o0 h) (fun z => z) (QC C r) := by
  subst e0
  have E := Ext.rfl' (C := C)
  unfold g59 at hf
  unfold fn59
  refine EX.bdS ?_
  obtain rfl := Option.some.inj hf
  exact ⟨_, rfl, H, E⟩
end
section
theorem g95_ok {h : xH} {C : xC} {o0 : Option Nat} {a0 : Nat} {x1 : Int32} {r : xC} (H : WH h C) (e0 : o0 = some a0) (ta0 : tR C o0 9) (hf : g95 a0 x1 C = some r) : EX (fn95 o0 x1 h) (fun z => z) (QC C r) := by
  subst e0
  have E := Ext.rfl' (C := C)
  unfold g95 at hf
  unfold fn95
  refine EX.bdS ?_
  obtain ⟨C_1, eC_1, hf⟩ := x_bind hf
  obtain ⟨h_2, eh_2, N_, t_3, H, E_⟩ := H.nAI (tg := 12) (by decide) (by decide) eC_1
  refine EX.bd eh_2 ?_
  rw [N_]
  replace ta0 := ta0.up E_
  replace E := E.tr E_
  obtain ⟨C_4, eC_4, hf⟩ := x_bind hf
  obtain ⟨h_5, eh_5, H, E_⟩ := H.pR (ci := 9) (k := 0) (ty := (.array .byte)) rfl ta0 t_3 (by decide) (by decide) (by decide) rfl rfl eC_4
  refine EX.bd eh_5 ?_
  replace t_3 := t_3.up E_
  replace ta0 := ta0.up E_
  replace E := E.tr E_
  obtain rfl := Option.some.inj hf
  exact ⟨_, rfl, H, E⟩
end
section
theorem gl3_68_ok : ∀ (n : Nat) {h : xH} {C : xC} {a0 : Nat} {x1 : Int32} {r : xC} (H : WH h C) (ta0 : tR C (some a0) 1), gl3_68 n a0 x1 C = some r → EX (l3_68 n (some a0) x1 h) (fun z => z) (QC C r) := by
  intro n
  induction n with
  | zero => intros; rename_i hf; cases hf
  | succ n ih =>
    intro h C a0 x1 r H ta0 hf
    have E := Ext.rfl' (C := C)
    replace hf : ((cR C a0 2).bind fun a_2 => (if (Int32.ofNat (cK C a_2).2) ≤ x1 then some C else (some (cNew C 6)).bind fun C_4 => (g59 C.1 C_4).bind fun C_8 => (cSR C_8 a_2 x1 (some C.1)).bind fun C_9 => gl3_68 n a0 (x1 + 1) C_9)) = some r := hf
    unfold l3_68
    refine EX.bd (H.gR rfl ta0 (by decide) (by decide) (by decide)) ?_
    have t_1 := H.tyR rfl ta0 (ci := 1) (k := 2) (by decide) (by decide) (by decide)
    obtain ⟨a_2, ea_2, hf⟩ := x_bind hf
    refine EX.bd (H.len ea_2 t_1 (by decide) (by decide)) ?_
    by_cases c_3 : (Int32.ofNat (cK C a_2).2) ≤ x1
    · replace hf := x_pos c_3 hf
      refine EX.pos c_3 ?_
      obtain rfl := Option.some.inj hf
      exact ⟨_, rfl, H, E⟩
    · replace hf := x_neg c_3 hf
      refine EX.neg c_3 ?_
      refine EX.bd (H.gR rfl ta0 (by decide) (by decide) (by decide)) ?_
      obtain ⟨C_4, eC_4, hf⟩ := x_bind hf
      obtain ⟨h_5, eh_5, N_, t_6, H, E_⟩ := H.new (ci := 6) (fs := [.int 0, .int 0, .int 0, .int 0, .int 0, .int 0, .int 0, .null]) (by decide) rfl eC_4
      refine EX.bd eh_5 ?_
      rw [N_]
      replace ta0 := ta0.up E_
      replace t_1 := t_1.up E_
      replace E := E.tr E_
      have Hc_ := H.cv rfl t_6 (by decide)
      obtain ⟨C_8, eC_8, hf⟩ := x_bind hf
      obtain ⟨h_7, eh_7, H, E_⟩ := g59_ok H rfl t_6 eC_8
      refine EX.bd Hc_ ?_
      refine EX.bd eh_7 ?_
      replace t_6 := t_6.up E_
      replace ta0 := ta0.up E_
      replace t_1 := t_1.up E_
      replace E := E.tr E_
      obtain ⟨C_9, eC_9, hf⟩ := x_bind hf
      obtain ⟨h_10, eh_10, H, E_⟩ := H.sR ea_2 t_1 (tg := 17) (by decide) (by decide) t_6 eC_9
      refine EX.bd eh_10 ?_
      replace t_6 := t_6.up E_
      replace ta0 := ta0.up E_
      replace t_1 := t_1.up E_
      replace E := E.tr E_
      exact EX.uC E (ih H ta0 hf)
theorem gl3_29_ok : ∀ (n : Nat) {h : xH} {C : xC} {a0 : Nat} {x1 : Int32} {r : xC} (H : WH h C) (ta0 : tR C (some a0) 1), gl3_29 n a0 x1 C = some r → EX (l3_29 n (some a0) x1 h) (fun z => z) (QC C r) := by
  intro n
  induction n with
  | zero => intros; rename_i hf; cases hf
  | succ n ih =>
    intro h C a0 x1 r H ta0 hf
    have E := Ext.rfl' (C := C)
    replace hf : ((cR C a0 1).bind fun a_2 => (if (Int32.ofNat (cK C a_2).2) ≤ x1 then (cNA C 17 120).bind fun C_4 => (some (uR C_4 a0 2 (some C.1))).bind fun C_7 => gl3_68 xFuel a0 0 C_7 else (some (cNew C 0)).bind fun C_9 => (g0 C.1 C_9).bind fun C_13 => (cSR C_13 a_2 x1 (some C.1)).bind fun C_14 => gl3_29 n a0 (x1 + 1) C_14)) = some r := hf
    unfold l3_29
    refine EX.bd (H.gR rfl ta0 (by decide) (by decide) (by decide)) ?_
    have t_1 := H.tyR rfl ta0 (ci := 1) (k := 1) (by decide) (by decide) (by decide)
    obtain ⟨a_2, ea_2, hf⟩ := x_bind hf
    refine EX.bd (H.len ea_2 t_1 (by decide) (by decide)) ?_
    by_cases c_3 : (Int32.ofNat (cK C a_2).2) ≤ x1
    · replace hf := x_pos c_3 hf
      refine EX.pos c_3 ?_
      obtain ⟨C_4, eC_4, hf⟩ := x_bind hf
      obtain ⟨h_5, eh_5, N_, t_6, H, E_⟩ := H.nAR (tg := 17) (by decide) (by decide) eC_4
      refine EX.bd eh_5 ?_
      rw [N_]
      replace ta0 := ta0.up E_
      replace t_1 := t_1.up E_
      replace E := E.tr E_
      obtain ⟨C_7, eC_7, hf⟩ := x_bind hf
      obtain ⟨h_8, eh_8, H, E_⟩ := H.pR (ci := 1) (k := 2) (ty := (.array (.object "DocFormat$Piece"))) rfl ta0 t_6 (by decide) (by decide) (by decide) rfl rfl eC_7
      refine EX.bd eh_8 ?_
      replace t_6 := t_6.up E_
      replace ta0 := ta0.up E_
      replace t_1 := t_1.up E_
      replace E := E.tr E_
      exact EX.uC E (gl3_68_ok xFuel H ta0 hf)
    · replace hf := x_neg c_3 hf
      refine EX.neg c_3 ?_
      refine EX.bd (H.gR rfl ta0 (by decide) (by decide) (by decide)) ?_
      obtain ⟨C_9, eC_9, hf⟩ := x_bind hf
      obtain ⟨h_10, eh_10, N_, t_11, H, E_⟩ := H.new (ci := 0) (fs := [.null, .int 0, .int 0, .int 0, .int 0, .int 0, .int 0, .int 0, .int 0, .null]) (by decide) rfl eC_9
      refine EX.bd eh_10 ?_
      rw [N_]
      replace ta0 := ta0.up E_
      replace t_1 := t_1.up E_
      replace E := E.tr E_
      have Hc_ := H.cv rfl t_11 (by decide)
      obtain ⟨C_13, eC_13, hf⟩ := x_bind hf
      obtain ⟨h_12, eh_12, H, E_⟩ := g0_ok H rfl t_11 eC_13
      refine EX.bd Hc_ ?_
      refine EX.bd eh_12 ?_
      replace t_11 := t_11.up E_
      replace ta0 := ta0.up E_
      replace t_1 := t_1.up E_
      replace E := E.tr E_
      obtain ⟨C_14, eC_14, hf⟩ := x_bind hf
      obtain ⟨h_15, eh_15, H, E_⟩ := H.sR ea_2 t_1 (tg := 15) (by decide) (by decide) t_11 eC_14
      refine EX.bd eh_15 ?_
      replace t_11 := t_11.up E_
      replace ta0 := ta0.up E_
      replace t_1 := t_1.up E_
      replace E := E.tr E_
      exact EX.uC E (ih H ta0 hf)
theorem g3_ok {h : xH} {C : xC} {o0 : Option Nat} {a0 : Nat} {r : xC} (H : WH h C) (e0 : o0 = some a0) (ta0 : tR C o0 1) (hf : g3 a0 C = some r) : EX (fn3 o0 h) (fun z => z) (QC C r) := by
  subst e0
  have E := Ext.rfl' (C := C)
  unfold g3 at hf
  unfold fn3
  refine EX.bdS ?_
  obtain ⟨C_1, eC_1, hf⟩ := x_bind hf
  obtain ⟨h_2, eh_2, N_, t_3, H, E_⟩ := H.new (ci := 9) (fs := [.null, .int 0]) (by decide) rfl eC_1
  refine EX.bd eh_2 ?_
  rw [N_]
  replace ta0 := ta0.up E_
  replace E := E.tr E_
  have Hc_ := H.cv rfl t_3 (by decide)
  obtain ⟨C_5, eC_5, hf⟩ := x_bind hf
  obtain ⟨h_4, eh_4, H, E_⟩ := g95_ok H rfl t_3 eC_5
  refine EX.bd Hc_ ?_
  refine EX.bd eh_4 ?_
  replace t_3 := t_3.up E_
  replace ta0 := ta0.up E_
  replace E := E.tr E_
  obtain ⟨C_6, eC_6, hf⟩ := x_bind hf
  obtain ⟨h_7, eh_7, H, E_⟩ := H.pR (ci := 1) (k := 0) (ty := (.object "DocFormat$Text")) rfl ta0 t_3 (by decide) (by decide) (by decide) rfl rfl eC_6
  refine EX.bd eh_7 ?_
  replace t_3 := t_3.up E_
  replace ta0 := ta0.up E_
  replace E := E.tr E_
  obtain ⟨C_8, eC_8, hf⟩ := x_bind hf
  obtain ⟨h_9, eh_9, N_, t_10, H, E_⟩ := H.nAR (tg := 15) (by decide) (by decide) eC_8
  refine EX.bd eh_9 ?_
  rw [N_]
  replace t_3 := t_3.up E_
  replace ta0 := ta0.up E_
  replace E := E.tr E_
  obtain ⟨C_11, eC_11, hf⟩ := x_bind hf
  obtain ⟨h_12, eh_12, H, E_⟩ := H.pR (ci := 1) (k := 1) (ty := (.array (.object "DocFormat$Block"))) rfl ta0 t_10 (by decide) (by decide) (by decide) rfl rfl eC_11
  refine EX.bd eh_12 ?_
  replace t_10 := t_10.up E_
  replace t_3 := t_3.up E_
  replace ta0 := ta0.up E_
  replace E := E.tr E_
  exact EX.uC E (gl3_29_ok xFuel H ta0 hf)
end
section
theorem gj96_26_ok {h : xH} {C : xC} {a0 : Nat} {x1 : Int32} {s0 : Int32} {r : (Int32 × xC)} (H : WH h C) (ta0 : tR C (some a0) 9) (hf : gj96_26 a0 x1 s0 C = some r) : EX (j96_26 (some a0) x1 s0 h) (fun z => (r.1, z)) (QC C r.2) := by
  have E := Ext.rfl' (C := C)
  unfold gj96_26 at hf
  unfold j96_26
  obtain rfl := Option.some.inj hf
  exact ⟨_, rfl, H, E⟩
theorem gj96_12_ok {h : xH} {C : xC} {a0 : Nat} {x1 : Int32} {r : (Int32 × xC)} (H : WH h C) (ta0 : tR C (some a0) 9) (hf : gj96_12 a0 x1 C = some r) : EX (j96_12 (some a0) x1 h) (fun z => (r.1, z)) (QC C r.2) := by
  have E := Ext.rfl' (C := C)
  unfold gj96_12 at hf
  unfold j96_12
  exact EX.uC E (gj96_26_ok H ta0 hf)
theorem g96_ok {h : xH} {C : xC} {o0 : Option Nat} {a0 : Nat} {x1 : Int32} {r : (Int32 × xC)} (H : WH h C) (e0 : o0 = some a0) (ta0 : tR C o0 9) (hf : g96 a0 x1 C = some r) : EX (fn96 o0 x1 h) (fun z => (r.1, z)) (QC C r.2) := by
  subst e0
  have E := Ext.rfl' (C := C)
  unfold g96 at hf
  unfold fn96
  by_cases c_1 : x1 < 0
  · replace hf := x_pos c_1 hf
    refine EX.pos c_1 ?_
    exact EX.uC E (gj96_12_ok H ta0 hf)
  · replace hf := x_neg c_1 hf
    refine EX.neg c_1 ?_
    refine EX.bd (H.gI rfl ta0 (by decide) (by decide) rfl) ?_
    by_cases c_2 : x1 < (cI C a0 1)
    · replace hf := x_pos c_2 hf
      refine EX.pos c_2 ?_
      refine EX.bd (H.gR rfl ta0 (by decide) (by decide) (by decide)) ?_
      have t_3 := H.tyR rfl ta0 (ci := 9) (k := 0) (by decide) (by decide) (by decide)
      obtain ⟨a_5, ea_5, hf⟩ := x_bind hf
      obtain ⟨v_4, ev_4, hf⟩ := x_bind hf
      refine EX.bd (H.ld ea_5 t_3 (by decide) (by decide) ev_4) ?_
      exact EX.uC E (gj96_26_ok H ta0 hf)
    · replace hf := x_neg c_2 hf
      refine EX.neg c_2 ?_
      exact EX.uC E (gj96_12_ok H ta0 hf)
end
section
theorem g97_ok {h : xH} {C : xC} {o0 : Option Nat} {a0 : Nat} {x1 : Int32} {r : (Int32 × xC)} (H : WH h C) (e0 : o0 = some a0) (ta0 : tR C o0 9) (hf : g97 a0 x1 C = some r) : EX (fn97 o0 x1 h) (fun z => (r.1, z)) (QC C r.2) := by
  subst e0
  have E := Ext.rfl' (C := C)
  unfold g97 at hf
  unfold fn97
  refine EX.bd (H.gI rfl ta0 (by decide) (by decide) rfl) ?_
  refine EX.bd (H.gR rfl ta0 (by decide) (by decide) (by decide)) ?_
  have t_1 := H.tyR rfl ta0 (ci := 9) (k := 0) (by decide) (by decide) (by decide)
  obtain ⟨a_2, ea_2, hf⟩ := x_bind hf
  refine EX.bd (H.len ea_2 t_1 (by decide) (by decide)) ?_
  by_cases c_3 : (cI C a0 1) < (Int32.ofNat (cK C a_2).2)
  · replace hf := x_pos c_3 hf
    refine EX.pos c_3 ?_
    refine EX.bd (H.gR rfl ta0 (by decide) (by decide) (by decide)) ?_
    refine EX.bd (H.gI rfl ta0 (by decide) (by decide) rfl) ?_
    obtain ⟨C_4, eC_4, hf⟩ := x_bind hf
    obtain ⟨h_5, eh_5, H, E_⟩ := H.st (f := vp_nar .byte) ea_2 t_1 (tg := 12) (by decide) (by decide) eC_4
    refine EX.bd eh_5 ?_
    replace t_1 := t_1.up E_
    replace ta0 := ta0.up E_
    replace E := E.tr E_
    refine EX.bd (H.gI rfl ta0 (by decide) (by decide) rfl) ?_
    obtain ⟨C_6, eC_6, hf⟩ := x_bind hf
    obtain ⟨h_7, eh_7, H, E_⟩ := H.pI rfl ta0 (by decide) (by decide) rfl (xfit_int _) eC_6
    refine EX.bd eh_7 ?_
    replace t_1 := t_1.up E_
    replace ta0 := ta0.up E_
    replace E := E.tr E_
    obtain rfl := Option.some.inj hf
    exact ⟨_, rfl, H, E⟩
  · replace hf := x_neg c_3 hf
    refine EX.neg c_3 ?_
    obtain rfl := Option.some.inj hf
    exact ⟨_, rfl, H, E⟩
end
section
theorem gl100_3_ok : ∀ (n : Nat) {h : xH} {C : xC} {a0 : Nat} {o1 : Option Nat} {x2 : Int32} {x3 : Int32} {x4 : Int32} {r : xC} (H : WH h C) (ta0 : tR C (some a0) 9) (to1 : tR C o1 9), gl100_3 n a0 o1 x2 x3 x4 C = some r → EX (l100_3 n (some a0) o1 x2 x3 x4 h) (fun z => z) (QC C r) := by
  intro n
  induction n with
  | zero => intros; rename_i hf; cases hf
  | succ n ih =>
    intro h C a0 o1 x2 x3 x4 r H ta0 to1 hf
    have E := Ext.rfl' (C := C)
    replace hf : ((if x3 ≤ x4 then some C else (o1).bind fun a_4 => (g96 a_4 x4 C).bind fun r_3 => (g97 a0 r_3.1 r_3.2).bind fun r_6 => gl100_3 n a0 o1 x2 x3 (x4 + 1) r_6.2)) = some r := hf
    unfold l100_3
    by_cases c_1 : x3 ≤ x4
    · replace hf := x_pos c_1 hf
      refine EX.pos c_1 ?_
      obtain rfl := Option.some.inj hf
      exact ⟨_, rfl, H, E⟩
    · replace hf := x_neg c_1 hf
      refine EX.neg c_1 ?_
      obtain ⟨a_4, ea_4, hf⟩ := x_bind hf
      have Hc_ := H.cv ea_4 to1 (by decide)
      obtain ⟨r_3, er_3, hf⟩ := x_bind hf
      obtain ⟨h_2, eh_2, H, E_⟩ := g96_ok H ea_4 to1 er_3
      refine EX.bd Hc_ ?_
      refine EX.bd eh_2 ?_
      dsimp only
      replace to1 := to1.up E_
      replace ta0 := ta0.up E_
      replace E := E.tr E_
      have Hc_ := H.cv rfl ta0 (by decide)
      obtain ⟨r_6, er_6, hf⟩ := x_bind hf
      obtain ⟨h_5, eh_5, H, E_⟩ := g97_ok H rfl ta0 er_6
      refine EX.bd Hc_ ?_
      refine EX.bd eh_5 ?_
      dsimp only
      replace to1 := to1.up E_
      replace ta0 := ta0.up E_
      replace E := E.tr E_
      exact EX.uC E (ih H ta0 to1 hf)
theorem g100_ok {h : xH} {C : xC} {o0 : Option Nat} {a0 : Nat} {o1 : Option Nat} {x2 : Int32} {x3 : Int32} {r : xC} (H : WH h C) (e0 : o0 = some a0) (ta0 : tR C o0 9) (to1 : tR C o1 9) (hf : g100 a0 o1 x2 x3 C = some r) : EX (fn100 o0 o1 x2 x3 h) (fun z => z) (QC C r) := by
  subst e0
  have E := Ext.rfl' (C := C)
  unfold g100 at hf
  unfold fn100
  exact EX.uC E (gl100_3_ok xFuel H ta0 to1 hf)
end
section
theorem g102_ok {h : xH} {C : xC} {o0 : Option Nat} {a0 : Nat} {o1 : Option Nat} {r : xC} (H : WH h C) (e0 : o0 = some a0) (ta0 : tR C o0 9) (to1 : tR C o1 9) (hf : g102 a0 o1 C = some r) : EX (fn102 o0 o1 h) (fun z => z) (QC C r) := by
  subst e0
  have E := Ext.rfl' (C := C)
  unfold g102 at hf
  unfold fn102
  obtain ⟨C_1, eC_1, hf⟩ := x_bind hf
  obtain ⟨h_2, eh_2, H, E_⟩ := H.pI rfl ta0 (by decide) (by decide) rfl (xfit_int _) eC_1
  refine EX.bd eh_2 ?_
  replace to1 := to1.up E_
  replace ta0 := ta0.up E_
  replace E := E.tr E_
  obtain ⟨a_3, ea_3, hf⟩ := x_bind hf
  refine EX.bd (H.gI ea_3 to1 (by decide) (by decide) rfl) ?_
  have Hc_ := H.cv rfl ta0 (by decide)
  obtain ⟨C_5, eC_5, hf⟩ := x_bind hf
  obtain ⟨h_4, eh_4, H, E_⟩ := g100_ok H rfl ta0 to1 eC_5
  refine EX.bd Hc_ ?_
  refine EX.bd eh_4 ?_
  replace to1 := to1.up E_
  replace ta0 := ta0.up E_
  replace E := E.tr E_
  obtain rfl := Option.some.inj hf
  exact ⟨_, rfl, H, E⟩
end
section
theorem g4_ok {h : xH} {C : xC} {o0 : Option Nat} {a0 : Nat} {o1 : Option Nat} {o2 : Option Nat} {r : xC} (H : WH h C) (e0 : o0 = some a0) (ta0 : tR C o0 1) (to1 : tR C o1 9) (to2 : tR C o2 2) (hf : g4 a0 o1 o2 C = some r) : EX (fn4 o0 o1 o2 h) (fun z => z) (QC C r) := by
  subst e0
  have E := Ext.rfl' (C := C)
  unfold g4 at hf
  unfold fn4
  refine EX.bd (H.gR rfl ta0 (by decide) (by decide) (by decide)) ?_
  have t_1 := H.tyR rfl ta0 (ci := 1) (k := 0) (by decide) (by decide) (by decide)
  obtain ⟨a_4, ea_4, hf⟩ := x_bind hf
  have Hc_ := H.cv ea_4 t_1 (by decide)
  obtain ⟨C_3, eC_3, hf⟩ := x_bind hf
  obtain ⟨h_2, eh_2, H, E_⟩ := g102_ok H ea_4 t_1 to1 eC_3
  refine EX.bd Hc_ ?_
  refine EX.bd eh_2 ?_
  replace t_1 := t_1.up E_
  replace to1 := to1.up E_
  replace ta0 := ta0.up E_
  replace to2 := to2.up E_
  replace E := E.tr E_
  obtain ⟨C_5, eC_5, hf⟩ := x_bind hf
  obtain ⟨h_6, eh_6, H, E_⟩ := H.pR (ci := 1) (k := 5) (ty := (.object "DocFormat$Entry")) rfl ta0 to2 (by decide) (by decide) (by decide) rfl rfl eC_5
  refine EX.bd eh_6 ?_
  replace t_1 := t_1.up E_
  replace to1 := to1.up E_
  replace ta0 := ta0.up E_
  replace to2 := to2.up E_
  replace E := E.tr E_
  obtain ⟨C_7, eC_7, hf⟩ := x_bind hf
  obtain ⟨h_8, eh_8, H, E_⟩ := H.pI rfl ta0 (by decide) (by decide) rfl (xfit_int _) eC_7
  refine EX.bd eh_8 ?_
  replace t_1 := t_1.up E_
  replace to1 := to1.up E_
  replace ta0 := ta0.up E_
  replace to2 := to2.up E_
  replace E := E.tr E_
  obtain ⟨C_9, eC_9, hf⟩ := x_bind hf
  obtain ⟨h_10, eh_10, H, E_⟩ := H.pI rfl ta0 (by decide) (by decide) rfl (xfit_int _) eC_9
  refine EX.bd eh_10 ?_
  replace t_1 := t_1.up E_
  replace to1 := to1.up E_
  replace ta0 := ta0.up E_
  replace to2 := to2.up E_
  replace E := E.tr E_
  obtain rfl := Option.some.inj hf
  exact ⟨_, rfl, H, E⟩
end
section
theorem gj5_22_ok {h : xH} {C : xC} {a0 : Nat} {x1 : Int32} {s0 : Option Nat} {r : (Option Nat × xC)} (H : WH h C) (ta0 : tR C (some a0) 1) (ts0 : tR C s0 0) (hf : gj5_22 a0 x1 s0 C = some r) : EX (j5_22 (some a0) x1 s0 h) (fun z => (r.1, z)) (QR 0 C r) := by
  have E := Ext.rfl' (C := C)
  unfold gj5_22 at hf
  unfold j5_22
  obtain rfl := Option.some.inj hf
  exact ⟨_, rfl, H, E, ts0⟩
theorem gj5_12_ok {h : xH} {C : xC} {a0 : Nat} {x1 : Int32} {r : (Option Nat × xC)} (H : WH h C) (ta0 : tR C (some a0) 1) (hf : gj5_12 a0 x1 C = some r) : EX (j5_12 (some a0) x1 h) (fun z => (r.1, z)) (QR 0 C r) := by
  have E := Ext.rfl' (C := C)
  unfold gj5_12 at hf
  unfold j5_12
  exact EX.uR E (gj5_22_ok H ta0 tR_none hf)
theorem g5_ok {h : xH} {C : xC} {o0 : Option Nat} {a0 : Nat} {x1 : Int32} {r : (Option Nat × xC)} (H : WH h C) (e0 : o0 = some a0) (ta0 : tR C o0 1) (hf : g5 a0 x1 C = some r) : EX (fn5 o0 x1 h) (fun z => (r.1, z)) (QR 0 C r) := by
  subst e0
  have E := Ext.rfl' (C := C)
  unfold g5 at hf
  unfold fn5
  by_cases c_1 : x1 < 0
  · replace hf := x_pos c_1 hf
    refine EX.pos c_1 ?_
    exact EX.uR E (gj5_12_ok H ta0 hf)
  · replace hf := x_neg c_1 hf
    refine EX.neg c_1 ?_
    refine EX.bd (H.gI rfl ta0 (by decide) (by decide) rfl) ?_
    by_cases c_2 : x1 < (cI C a0 3)
    · replace hf := x_pos c_2 hf
      refine EX.pos c_2 ?_
      refine EX.bd (H.gR rfl ta0 (by decide) (by decide) (by decide)) ?_
      have t_3 := H.tyR rfl ta0 (ci := 1) (k := 1) (by decide) (by decide) (by decide)
      obtain ⟨a_5, ea_5, hf⟩ := x_bind hf
      obtain ⟨o_4, eo_4, hf⟩ := x_bind hf
      refine EX.bd (H.lR ea_5 t_3 (by decide) (by decide) eo_4) ?_
      have t_6 := H.tL ea_5 t_3 (ci := 15) (by decide) (by decide) eo_4
      exact EX.uR E (gj5_22_ok H ta0 t_6 hf)
    · replace hf := x_neg c_2 hf
      refine EX.neg c_2 ?_
      exact EX.uR E (gj5_12_ok H ta0 hf)
end
section
theorem gj6_22_ok {h : xH} {C : xC} {a0 : Nat} {x1 : Int32} {s0 : Option Nat} {r : (Option Nat × xC)} (H : WH h C) (ta0 : tR C (some a0) 1) (ts0 : tR C s0 6) (hf : gj6_22 a0 x1 s0 C = some r) : EX (j6_22 (some a0) x1 s0 h) (fun z => (r.1, z)) (QR 6 C r) := by
  have E := Ext.rfl' (C := C)
  unfold gj6_22 at hf
  unfold j6_22
  obtain rfl := Option.some.inj hf
  exact ⟨_, rfl, H, E, ts0⟩
theorem gj6_12_ok {h : xH} {C : xC} {a0 : Nat} {x1 : Int32} {r : (Option Nat × xC)} (H : WH h C) (ta0 : tR C (some a0) 1) (hf : gj6_12 a0 x1 C = some r) : EX (j6_12 (some a0) x1 h) (fun z => (r.1, z)) (QR 6 C r) := by
  have E := Ext.rfl' (C := C)
  unfold gj6_12 at hf
  unfold j6_12
  exact EX.uR E (gj6_22_ok H ta0 tR_none hf)
theorem g6_ok {h : xH} {C : xC} {o0 : Option Nat} {a0 : Nat} {x1 : Int32} {r : (Option Nat × xC)} (H : WH h C) (e0 : o0 = some a0) (ta0 : tR C o0 1) (hf : g6 a0 x1 C = some r) : EX (fn6 o0 x1 h) (fun z => (r.1, z)) (QR 6 C r) := by
  subst e0
  have E := Ext.rfl' (C := C)
  unfold g6 at hf
  unfold fn6
  by_cases c_1 : x1 < 0
  · replace hf := x_pos c_1 hf
    refine EX.pos c_1 ?_
    exact EX.uR E (gj6_12_ok H ta0 hf)
  · replace hf := x_neg c_1 hf
    refine EX.neg c_1 ?_
    refine EX.bd (H.gI rfl ta0 (by decide) (by decide) rfl) ?_
    by_cases c_2 : x1 < (cI C a0 4)
    · replace hf := x_pos c_2 hf
      refine EX.pos c_2 ?_
      refine EX.bd (H.gR rfl ta0 (by decide) (by decide) (by decide)) ?_
      have t_3 := H.tyR rfl ta0 (ci := 1) (k := 2) (by decide) (by decide) (by decide)
      obtain ⟨a_5, ea_5, hf⟩ := x_bind hf
      obtain ⟨o_4, eo_4, hf⟩ := x_bind hf
      refine EX.bd (H.lR ea_5 t_3 (by decide) (by decide) eo_4) ?_
      have t_6 := H.tL ea_5 t_3 (ci := 17) (by decide) (by decide) eo_4
      exact EX.uR E (gj6_22_ok H ta0 t_6 hf)
    · replace hf := x_neg c_2 hf
      refine EX.neg c_2 ?_
      exact EX.uR E (gj6_12_ok H ta0 hf)
end
section
theorem g7_ok {h : xH} {C : xC} {o0 : Option Nat} {a0 : Nat} {x1 : Int32} {x2 : Int32} {r : (Option Nat × xC)} (H : WH h C) (e0 : o0 = some a0) (ta0 : tR C o0 1) (hf : g7 a0 x1 x2 C = some r) : EX (fn7 o0 x1 x2 h) (fun z => (r.1, z)) (QR 0 C r) := by
  subst e0
  have E := Ext.rfl' (C := C)
  unfold g7 at hf
  unfold fn7
  refine EX.bd (H.gI rfl ta0 (by decide) (by decide) rfl) ?_
  refine EX.bd (H.gR rfl ta0 (by decide) (by decide) (by decide)) ?_
  have t_1 := H.tyR rfl ta0 (ci := 1) (k := 1) (by decide) (by decide) (by decide)
  obtain ⟨a_2, ea_2, hf⟩ := x_bind hf
  refine EX.bd (H.len ea_2 t_1 (by decide) (by decide)) ?_
  by_cases c_3 : (cI C a0 3) < (Int32.ofNat (cK C a_2).2)
  · replace hf := x_pos c_3 hf
    refine EX.pos c_3 ?_
    refine EX.bd (H.gR rfl ta0 (by decide) (by decide) (by decide)) ?_
    refine EX.bd (H.gI rfl ta0 (by decide) (by decide) rfl) ?_
    obtain ⟨o_4, eo_4, hf⟩ := x_bind hf
    refine EX.bd (H.lR ea_2 t_1 (by decide) (by decide) eo_4) ?_
    have t_5 := H.tL ea_2 t_1 (ci := 15) (by decide) (by decide) eo_4
    refine EX.bd (H.gI rfl ta0 (by decide) (by decide) rfl) ?_
    obtain ⟨C_6, eC_6, hf⟩ := x_bind hf
    obtain ⟨h_7, eh_7, H, E_⟩ := H.pI rfl ta0 (by decide) (by decide) rfl (xfit_int _) eC_6
    refine EX.bd eh_7 ?_
    replace ta0 := ta0.up E_
    replace t_1 := t_1.up E_
    replace t_5 := t_5.up E_
    replace E := E.tr E_
    obtain ⟨a_10, ea_10, hf⟩ := x_bind hf
    obtain ⟨C_8, eC_8, hf⟩ := x_bind hf
    obtain ⟨h_9, eh_9, H, E_⟩ := H.pR (ci := 0) (k := 0) (ty := (.object "DocFormat$Comment")) ea_10 t_5 ta0 (by decide) (by decide) (by decide) rfl rfl eC_8
    refine EX.bd eh_9 ?_
    replace ta0 := ta0.up E_
    replace t_1 := t_1.up E_
    replace t_5 := t_5.up E_
    replace E := E.tr E_
    obtain ⟨C_11, eC_11, hf⟩ := x_bind hf
    obtain ⟨h_12, eh_12, H, E_⟩ := H.pI ea_10 t_5 (by decide) (by decide) rfl (xfit_int _) eC_11
    refine EX.bd eh_12 ?_
    replace ta0 := ta0.up E_
    replace t_1 := t_1.up E_
    replace t_5 := t_5.up E_
    replace E := E.tr E_
    obtain ⟨C_13, eC_13, hf⟩ := x_bind hf
    obtain ⟨h_14, eh_14, H, E_⟩ := H.pI ea_10 t_5 (by decide) (by decide) rfl (xfit_int _) eC_13
    refine EX.bd eh_14 ?_
    replace ta0 := ta0.up E_
    replace t_1 := t_1.up E_
    replace t_5 := t_5.up E_
    replace E := E.tr E_
    obtain ⟨C_15, eC_15, hf⟩ := x_bind hf
    obtain ⟨h_16, eh_16, H, E_⟩ := H.pI ea_10 t_5 (by decide) (by decide) rfl (xfit_int _) eC_15
    refine EX.bd eh_16 ?_
    replace ta0 := ta0.up E_
    replace t_1 := t_1.up E_
    replace t_5 := t_5.up E_
    replace E := E.tr E_
    refine EX.bd (H.gI rfl ta0 (by decide) (by decide) rfl) ?_
    obtain ⟨C_17, eC_17, hf⟩ := x_bind hf
    obtain ⟨h_18, eh_18, H, E_⟩ := H.pI ea_10 t_5 (by decide) (by decide) rfl (xfit_int _) eC_17
    refine EX.bd eh_18 ?_
    replace ta0 := ta0.up E_
    replace t_1 := t_1.up E_
    replace t_5 := t_5.up E_
    replace E := E.tr E_
    obtain ⟨C_19, eC_19, hf⟩ := x_bind hf
    obtain ⟨h_20, eh_20, H, E_⟩ := H.pI ea_10 t_5 (by decide) (by decide) rfl (xfit_int _) eC_19
    refine EX.bd eh_20 ?_
    replace ta0 := ta0.up E_
    replace t_1 := t_1.up E_
    replace t_5 := t_5.up E_
    replace E := E.tr E_
    obtain ⟨C_21, eC_21, hf⟩ := x_bind hf
    obtain ⟨h_22, eh_22, H, E_⟩ := H.pI ea_10 t_5 (by decide) (by decide) rfl (xfit_int _) eC_21
    refine EX.bd eh_22 ?_
    replace ta0 := ta0.up E_
    replace t_1 := t_1.up E_
    replace t_5 := t_5.up E_
    replace E := E.tr E_
    obtain ⟨C_23, eC_23, hf⟩ := x_bind hf
    obtain ⟨h_24, eh_24, H, E_⟩ := H.pI ea_10 t_5 (by decide) (by decide) rfl (xfit_int _) eC_23
    refine EX.bd eh_24 ?_
    replace ta0 := ta0.up E_
    replace t_1 := t_1.up E_
    replace t_5 := t_5.up E_
    replace E := E.tr E_
    obtain ⟨C_25, eC_25, hf⟩ := x_bind hf
    obtain ⟨h_26, eh_26, H, E_⟩ := H.pI ea_10 t_5 (by decide) (by decide) rfl (show xfit .boolean (.int 0) = true by decide) eC_25
    refine EX.bd eh_26 ?_
    replace ta0 := ta0.up E_
    replace t_1 := t_1.up E_
    replace t_5 := t_5.up E_
    replace E := E.tr E_
    obtain rfl := Option.some.inj hf
    exact ⟨_, rfl, H, E, t_5⟩
  · replace hf := x_neg c_3 hf
    refine EX.neg c_3 ?_
    obtain rfl := Option.some.inj hf
    exact ⟨_, rfl, H, E, tR_none⟩
end
section
theorem g8_ok {h : xH} {C : xC} {o0 : Option Nat} {a0 : Nat} {x1 : Int32} {x2 : Int32} {r : (Option Nat × xC)} (H : WH h C) (e0 : o0 = some a0) (ta0 : tR C o0 1) (hf : g8 a0 x1 x2 C = some r) : EX (fn8 o0 x1 x2 h) (fun z => (r.1, z)) (QR 6 C r) := by
  subst e0
  have E := Ext.rfl' (C := C)
  unfold g8 at hf
  unfold fn8
  refine EX.bd (H.gI rfl ta0 (by decide) (by decide) rfl) ?_
  refine EX.bd (H.gR rfl ta0 (by decide) (by decide) (by decide)) ?_
  have t_1 := H.tyR rfl ta0 (ci := 1) (k := 2) (by decide) (by decide) (by decide)
  obtain ⟨a_2, ea_2, hf⟩ := x_bind hf
  refine EX.bd (H.len ea_2 t_1 (by decide) (by decide)) ?_
  by_cases c_3 : (cI C a0 4) < (Int32.ofNat (cK C a_2).2)
  · replace hf := x_pos c_3 hf
    refine EX.pos c_3 ?_
    refine EX.bd (H.gR rfl ta0 (by decide) (by decide) (by decide)) ?_
    refine EX.bd (H.gI rfl ta0 (by decide) (by decide) rfl) ?_
    obtain ⟨o_4, eo_4, hf⟩ := x_bind hf
    refine EX.bd (H.lR ea_2 t_1 (by decide) (by decide) eo_4) ?_
    have t_5 := H.tL ea_2 t_1 (ci := 17) (by decide) (by decide) eo_4
    refine EX.bd (H.gI rfl ta0 (by decide) (by decide) rfl) ?_
    obtain ⟨C_6, eC_6, hf⟩ := x_bind hf
    obtain ⟨h_7, eh_7, H, E_⟩ := H.pI rfl ta0 (by decide) (by decide) rfl (xfit_int _) eC_6
    refine EX.bd eh_7 ?_
    replace ta0 := ta0.up E_
    replace t_5 := t_5.up E_
    replace t_1 := t_1.up E_
    replace E := E.tr E_
    obtain ⟨a_10, ea_10, hf⟩ := x_bind hf
    obtain ⟨C_8, eC_8, hf⟩ := x_bind hf
    obtain ⟨h_9, eh_9, H, E_⟩ := H.pI ea_10 t_5 (by decide) (by decide) rfl (xfit_int _) eC_8
    refine EX.bd eh_9 ?_
    replace ta0 := ta0.up E_
    replace t_5 := t_5.up E_
    replace t_1 := t_1.up E_
    replace E := E.tr E_
    obtain ⟨C_11, eC_11, hf⟩ := x_bind hf
    obtain ⟨h_12, eh_12, H, E_⟩ := H.pI ea_10 t_5 (by decide) (by decide) rfl (xfit_int _) eC_11
    refine EX.bd eh_12 ?_
    replace ta0 := ta0.up E_
    replace t_5 := t_5.up E_
    replace t_1 := t_1.up E_
    replace E := E.tr E_
    obtain ⟨C_13, eC_13, hf⟩ := x_bind hf
    obtain ⟨h_14, eh_14, H, E_⟩ := H.pI ea_10 t_5 (by decide) (by decide) rfl (xfit_int _) eC_13
    refine EX.bd eh_14 ?_
    replace ta0 := ta0.up E_
    replace t_5 := t_5.up E_
    replace t_1 := t_1.up E_
    replace E := E.tr E_
    obtain ⟨C_15, eC_15, hf⟩ := x_bind hf
    obtain ⟨h_16, eh_16, H, E_⟩ := H.pI ea_10 t_5 (by decide) (by decide) rfl (xfit_int _) eC_15
    refine EX.bd eh_16 ?_
    replace ta0 := ta0.up E_
    replace t_5 := t_5.up E_
    replace t_1 := t_1.up E_
    replace E := E.tr E_
    obtain ⟨C_17, eC_17, hf⟩ := x_bind hf
    obtain ⟨h_18, eh_18, H, E_⟩ := H.pI ea_10 t_5 (by decide) (by decide) rfl (xfit_int _) eC_17
    refine EX.bd eh_18 ?_
    replace ta0 := ta0.up E_
    replace t_5 := t_5.up E_
    replace t_1 := t_1.up E_
    replace E := E.tr E_
    obtain ⟨C_19, eC_19, hf⟩ := x_bind hf
    obtain ⟨h_20, eh_20, H, E_⟩ := H.pI ea_10 t_5 (by decide) (by decide) rfl (xfit_int _) eC_19
    refine EX.bd eh_20 ?_
    replace ta0 := ta0.up E_
    replace t_5 := t_5.up E_
    replace t_1 := t_1.up E_
    replace E := E.tr E_
    obtain ⟨C_21, eC_21, hf⟩ := x_bind hf
    obtain ⟨h_22, eh_22, H, E_⟩ := H.pI ea_10 t_5 (by decide) (by decide) rfl (show xfit .boolean (.int 0) = true by decide) eC_21
    refine EX.bd eh_22 ?_
    replace ta0 := ta0.up E_
    replace t_5 := t_5.up E_
    replace t_1 := t_1.up E_
    replace E := E.tr E_
    obtain rfl := Option.some.inj hf
    exact ⟨_, rfl, H, E, t_5⟩
  · replace hf := x_neg c_3 hf
    refine EX.neg c_3 ?_
    obtain rfl := Option.some.inj hf
    exact ⟨_, rfl, H, E, tR_none⟩
end
section
theorem gl9_2_ok : ∀ (n : Nat) {h : xH} {C : xC} {a0 : Nat} {x1 : Int32} {x2 : Int32} {r : (Option Nat × xC)} (H : WH h C) (ta0 : tR C (some a0) 1), gl9_2 n a0 x1 x2 C = some r → EX (l9_2 n (some a0) x1 x2 h) (fun z => (r.1, z)) (QR 0 C r) := by
  intro n
  induction n with
  | zero => intros; rename_i hf; cases hf
  | succ n ih =>
    intro h C a0 x1 x2 r H ta0 hf
    have E := Ext.rfl' (C := C)
    replace hf : ((if (cI C a0 3) ≤ x2 then some (none, C) else (cR C a0 1).bind fun a_4 => (cLR C a_4 x2).bind fun o_3 => (o_3).bind fun a_6 => (if (cI C a_6 1) = x1 then (cLR C a_4 x2).bind fun o_8 => some (o_8, C) else gl9_2 n a0 x1 (x2 + 1) C))) = some r := hf
    unfold l9_2
    refine EX.bd (H.gI rfl ta0 (by decide) (by decide) rfl) ?_
    by_cases c_1 : (cI C a0 3) ≤ x2
    · replace hf := x_pos c_1 hf
      refine EX.pos c_1 ?_
      obtain rfl := Option.some.inj hf
      exact ⟨_, rfl, H, E, tR_none⟩
    · replace hf := x_neg c_1 hf
      refine EX.neg c_1 ?_
      refine EX.bd (H.gR rfl ta0 (by decide) (by decide) (by decide)) ?_
      have t_2 := H.tyR rfl ta0 (ci := 1) (k := 1) (by decide) (by decide) (by decide)
      obtain ⟨a_4, ea_4, hf⟩ := x_bind hf
      obtain ⟨o_3, eo_3, hf⟩ := x_bind hf
      refine EX.bd (H.lR ea_4 t_2 (by decide) (by decide) eo_3) ?_
      have t_5 := H.tL ea_4 t_2 (ci := 15) (by decide) (by decide) eo_3
      obtain ⟨a_6, ea_6, hf⟩ := x_bind hf
      refine EX.bd (H.gI ea_6 t_5 (by decide) (by decide) rfl) ?_
      by_cases c_7 : (cI C a_6 1) = x1
      · replace hf := x_pos c_7 hf
        refine EX.pos c_7 ?_
        refine EX.bd (H.gR rfl ta0 (by decide) (by decide) (by decide)) ?_
        obtain ⟨o_8, eo_8, hf⟩ := x_bind hf
        refine EX.bd (H.lR ea_4 t_2 (by decide) (by decide) eo_8) ?_
        have t_9 := H.tL ea_4 t_2 (ci := 15) (by decide) (by decide) eo_8
        obtain rfl := Option.some.inj hf
        exact ⟨_, rfl, H, E, t_9⟩
      · replace hf := x_neg c_7 hf
        refine EX.neg c_7 ?_
        exact EX.uR E (ih H ta0 hf)
theorem g9_ok {h : xH} {C : xC} {o0 : Option Nat} {a0 : Nat} {x1 : Int32} {r : (Option Nat × xC)} (H : WH h C) (e0 : o0 = some a0) (ta0 : tR C o0 1) (hf : g9 a0 x1 C = some r) : EX (fn9 o0 x1 h) (fun z => (r.1, z)) (QR 0 C r) := by
  subst e0
  have E := Ext.rfl' (C := C)
  unfold g9 at hf
  unfold fn9
  exact EX.uR E (gl9_2_ok xFuel H ta0 hf)
end
section
theorem gl103_27_ok : ∀ (n : Nat) {h : xH} {C : xC} {a0 : Nat} {o1 : Option Nat} {x2 : Int32} {x3 : Int32} {x4 : Int32} {r : (Int32 × xC)} (H : WH h C) (ta0 : tR C (some a0) 9) (to1 : tR C o1 9), gl103_27 n a0 o1 x2 x3 x4 C = some r → EX (l103_27 n (some a0) o1 x2 x3 x4 h) (fun z => (r.1, z)) (QC C r.2) := by
  intro n
  induction n with
  | zero => intros; rename_i hf; cases hf
  | succ n ih =>
    intro h C a0 o1 x2 x3 x4 r H ta0 to1 hf
    have E := Ext.rfl' (C := C)
    replace hf : ((if (cI C a0 1) ≤ x4 then some (1, C) else (cR C a0 0).bind fun a_4 => (cLd C a_4 x4).bind fun v_3 => (o1).bind fun a_5 => (cR C a_5 0).bind fun a_8 => (cLd C a_8 (x2 + x4)).bind fun v_7 => (if v_3 = v_7 then gl103_27 n a0 o1 x2 x3 (x4 + 1) C else some (0, C)))) = some r := hf
    unfold l103_27
    refine EX.bd (H.gI rfl ta0 (by decide) (by decide) rfl) ?_
    by_cases c_1 : (cI C a0 1) ≤ x4
    · replace hf := x_pos c_1 hf
      refine EX.pos c_1 ?_
      obtain rfl := Option.some.inj hf
      exact ⟨_, rfl, H, E⟩
    · replace hf := x_neg c_1 hf
      refine EX.neg c_1 ?_
      refine EX.bd (H.gR rfl ta0 (by decide) (by decide) (by decide)) ?_
      have t_2 := H.tyR rfl ta0 (ci := 9) (k := 0) (by decide) (by decide) (by decide)
      obtain ⟨a_4, ea_4, hf⟩ := x_bind hf
      obtain ⟨v_3, ev_3, hf⟩ := x_bind hf
      refine EX.bd (H.ld ea_4 t_2 (by decide) (by decide) ev_3) ?_
      obtain ⟨a_5, ea_5, hf⟩ := x_bind hf
      refine EX.bd (H.gR ea_5 to1 (by decide) (by decide) (by decide)) ?_
      have t_6 := H.tyR ea_5 to1 (ci := 9) (k := 0) (by decide) (by decide) (by decide)
      obtain ⟨a_8, ea_8, hf⟩ := x_bind hf
      obtain ⟨v_7, ev_7, hf⟩ := x_bind hf
      refine EX.bd (H.ld ea_8 t_6 (by decide) (by decide) ev_7) ?_
      by_cases c_9 : v_3 = v_7
      · replace hf := x_pos c_9 hf
        refine EX.pos c_9 ?_
        exact EX.uC E (ih H ta0 to1 hf)
      · replace hf := x_neg c_9 hf
        refine EX.neg c_9 ?_
        obtain rfl := Option.some.inj hf
        exact ⟨_, rfl, H, E⟩
theorem gj103_22_ok {h : xH} {C : xC} {a0 : Nat} {o1 : Option Nat} {x2 : Int32} {x3 : Int32} {r : (Int32 × xC)} (H : WH h C) (ta0 : tR C (some a0) 9) (to1 : tR C o1 9) (hf : gj103_22 a0 o1 x2 x3 C = some r) : EX (j103_22 (some a0) o1 x2 x3 h) (fun z => (r.1, z)) (QC C r.2) := by
  have E := Ext.rfl' (C := C)
  unfold gj103_22 at hf
  unfold j103_22
  obtain rfl := Option.some.inj hf
  exact ⟨_, rfl, H, E⟩
theorem g103_ok {h : xH} {C : xC} {o0 : Option Nat} {a0 : Nat} {o1 : Option Nat} {x2 : Int32} {x3 : Int32} {r : (Int32 × xC)} (H : WH h C) (e0 : o0 = some a0) (ta0 : tR C o0 9) (to1 : tR C o1 9) (hf : g103 a0 o1 x2 x3 C = some r) : EX (fn103 o0 o1 x2 x3 h) (fun z => (r.1, z)) (QC C r.2) := by
  subst e0
  have E := Ext.rfl' (C := C)
  unfold g103 at hf
  unfold fn103
  by_cases c_1 : x2 < 0
  · replace hf := x_pos c_1 hf
    refine EX.pos c_1 ?_
    exact EX.uC E (gj103_22_ok H ta0 to1 hf)
  · replace hf := x_neg c_1 hf
    refine EX.neg c_1 ?_
    obtain ⟨a_2, ea_2, hf⟩ := x_bind hf
    refine EX.bd (H.gI ea_2 to1 (by decide) (by decide) rfl) ?_
    by_cases c_3 : (cI C a_2 1) < x3
    · replace hf := x_pos c_3 hf
      refine EX.pos c_3 ?_
      exact EX.uC E (gj103_22_ok H ta0 to1 hf)
    · replace hf := x_neg c_3 hf
      refine EX.neg c_3 ?_
      refine EX.bd (H.gI rfl ta0 (by decide) (by decide) rfl) ?_
      by_cases c_4 : (x3 - x2) = (cI C a0 1)
      · replace hf := x_pos c_4 hf
        refine EX.pos c_4 ?_
        exact EX.uC E (gl103_27_ok xFuel H ta0 to1 hf)
      · replace hf := x_neg c_4 hf
        refine EX.neg c_4 ?_
        exact EX.uC E (gj103_22_ok H ta0 to1 hf)
end
section
theorem gj10_46_ok {k2 : Nat → Option Nat → Int32 → xC → Option (Int32 × xC)} {f2 : Option Nat → Option Nat → Int32 → xH → Option (Int32 × xH)} (hk2 : ∀ {h : xH} {C : xC} {a0 : Nat} {o1 : Option Nat} {x2 : Int32} {r : (Int32 × xC)}, WH h C → tR C (some a0) 1 → tR C o1 9 → k2 a0 o1 x2 C = some r → EX (f2 (some a0) o1 x2 h) (fun z => (r.1, z)) (QC C r.2)) {h : xH} {C : xC} {a0 : Nat} {o1 : Option Nat} {x2 : Int32} {o3 : Option Nat} {r : (Int32 × xC)} (H : WH h C) (ta0 : tR C (some a0) 1) (to1 : tR C o1 9) (to3 : tR C o3 0) (hf : gj10_46 k2 a0 o1 x2 o3 C = some r) : EX (j10_46 f2 (some a0) o1 x2 o3 h) (fun z => (r.1, z)) (QC C r.2) := by
  have E := Ext.rfl' (C := C)
  unfold gj10_46 at hf
  unfold j10_46
  exact EX.uC E (hk2 H ta0 to1 hf)
theorem gl10_2_ok : ∀ (n : Nat) {h : xH} {C : xC} {a0 : Nat} {o1 : Option Nat} {x2 : Int32} {r : (Int32 × xC)} (H : WH h C) (ta0 : tR C (some a0) 1) (to1 : tR C o1 9), gl10_2 n a0 o1 x2 C = some r → EX (l10_2 n (some a0) o1 x2 h) (fun z => (r.1, z)) (QC C r.2) := by
  intro n
  induction n with
  | zero => intros; rename_i hf; cases hf
  | succ n ih =>
    intro h C a0 o1 x2 r H ta0 to1 hf
    have E := Ext.rfl' (C := C)
    replace hf : ((if (cI C a0 3) ≤ x2 then some (0, C) else (cR C a0 1).bind fun a_4 => (cLR C a_4 x2).bind fun o_3 => (o_3).bind fun a_6 => (if (cI C a_6 1) = 2 then (o1).bind fun a_11 => (g103 a_11 (cR C a0 0) (cI C a_6 6) (cI C a_6 7) C).bind fun r_10 => (if r_10.1 = 0 then gj10_46 (gl10_2 n) a0 o1 x2 o_3 r_10.2 else some (1, r_10.2)) else gj10_46 (gl10_2 n) a0 o1 x2 o_3 C))) = some r := hf
    unfold l10_2
    refine EX.bd (H.gI rfl ta0 (by decide) (by decide) rfl) ?_
    by_cases c_1 : (cI C a0 3) ≤ x2
    · replace hf := x_pos c_1 hf
      refine EX.pos c_1 ?_
      obtain rfl := Option.some.inj hf
      exact ⟨_, rfl, H, E⟩
    · replace hf := x_neg c_1 hf
      refine EX.neg c_1 ?_
      refine EX.bd (H.gR rfl ta0 (by decide) (by decide) (by decide)) ?_
      have t_2 := H.tyR rfl ta0 (ci := 1) (k := 1) (by decide) (by decide) (by decide)
      obtain ⟨a_4, ea_4, hf⟩ := x_bind hf
      obtain ⟨o_3, eo_3, hf⟩ := x_bind hf
      refine EX.bd (H.lR ea_4 t_2 (by decide) (by decide) eo_3) ?_
      have t_5 := H.tL ea_4 t_2 (ci := 15) (by decide) (by decide) eo_3
      obtain ⟨a_6, ea_6, hf⟩ := x_bind hf
      refine EX.bd (H.gI ea_6 t_5 (by decide) (by decide) rfl) ?_
      by_cases c_7 : (cI C a_6 1) = 2
      · replace hf := x_pos c_7 hf
        refine EX.pos c_7 ?_
        refine EX.bd (H.gR rfl ta0 (by decide) (by decide) (by decide)) ?_
        have t_8 := H.tyR rfl ta0 (ci := 1) (k := 0) (by decide) (by decide) (by decide)
        refine EX.bd (H.gI ea_6 t_5 (by decide) (by decide) rfl) ?_
        refine EX.bd (H.gI ea_6 t_5 (by decide) (by decide) rfl) ?_
        obtain ⟨a_11, ea_11, hf⟩ := x_bind hf
        have Hc_ := H.cv ea_11 to1 (by decide)
        obtain ⟨r_10, er_10, hf⟩ := x_bind hf
        obtain ⟨h_9, eh_9, H, E_⟩ := g103_ok H ea_11 to1 t_8 er_10
        refine EX.bd Hc_ ?_
        refine EX.bd eh_9 ?_
        dsimp only
        replace to1 := to1.up E_
        replace ta0 := ta0.up E_
        replace t_2 := t_2.up E_
        replace t_5 := t_5.up E_
        replace E := E.tr E_
        by_cases c_12 : r_10.1 = 0
        · replace hf := x_pos c_12 hf
          refine EX.pos c_12 ?_
          exact EX.uC E (gj10_46_ok (k2 := (gl10_2 n)) (f2 := (l10_2 n)) ih H ta0 to1 t_5 hf)
        · replace hf := x_neg c_12 hf
          refine EX.neg c_12 ?_
          obtain rfl := Option.some.inj hf
          exact ⟨_, rfl, H, E⟩
      · replace hf := x_neg c_7 hf
        refine EX.neg c_7 ?_
        exact EX.uC E (gj10_46_ok (k2 := (gl10_2 n)) (f2 := (l10_2 n)) ih H ta0 to1 t_5 hf)
theorem g10_ok {h : xH} {C : xC} {o0 : Option Nat} {a0 : Nat} {o1 : Option Nat} {r : (Int32 × xC)} (H : WH h C) (e0 : o0 = some a0) (ta0 : tR C o0 1) (to1 : tR C o1 9) (hf : g10 a0 o1 C = some r) : EX (fn10 o0 o1 h) (fun z => (r.1, z)) (QC C r.2) := by
  subst e0
  have E := Ext.rfl' (C := C)
  unfold g10 at hf
  unfold fn10
  exact EX.uC E (gl10_2_ok xFuel H ta0 to1 hf)
end
section
theorem g11_ok {h : xH} {C : xC} {o0 : Option Nat} {a0 : Nat} {x1 : Int32} {o2 : Option Nat} {o3 : Option Nat} {x4 : Int32} {r : xC} (H : WH h C) (e0 : o0 = some a0) (ta0 : tR C o0 2) (to2 : tR C o2 2) (to3 : tR C o3 2) (hf : g11 a0 x1 o2 o3 x4 C = some r) : EX (fn11 o0 x1 o2 o3 x4 h) (fun z => z) (QC C r) := by
  subst e0
  have E := Ext.rfl' (C := C)
  unfold g11 at hf
  unfold fn11
  refine EX.bdS ?_
  obtain ⟨C_1, eC_1, hf⟩ := x_bind hf
  obtain ⟨h_2, eh_2, H, E_⟩ := H.pI rfl ta0 (by decide) (by decide) rfl (xfit_int _) eC_1
  refine EX.bd eh_2 ?_
  replace to3 := to3.up E_
  replace ta0 := ta0.up E_
  replace to2 := to2.up E_
  replace E := E.tr E_
  obtain ⟨C_3, eC_3, hf⟩ := x_bind hf
  obtain ⟨h_4, eh_4, H, E_⟩ := H.pR (ci := 2) (k := 2) (ty := (.object "DocFormat$Entry")) rfl ta0 to2 (by decide) (by decide) (by decide) rfl rfl eC_3
  refine EX.bd eh_4 ?_
  replace to3 := to3.up E_
  replace ta0 := ta0.up E_
  replace to2 := to2.up E_
  replace E := E.tr E_
  obtain ⟨C_5, eC_5, hf⟩ := x_bind hf
  obtain ⟨h_6, eh_6, H, E_⟩ := H.pR (ci := 2) (k := 3) (ty := (.object "DocFormat$Entry")) rfl ta0 to3 (by decide) (by decide) (by decide) rfl rfl eC_5
  refine EX.bd eh_6 ?_
  replace to3 := to3.up E_
  replace ta0 := ta0.up E_
  replace to2 := to2.up E_
  replace E := E.tr E_
  by_cases c_9 : x4 &&& 1 = x4
  · replace hf := x_pos c_9 hf
    obtain ⟨C_7, eC_7, hf⟩ := x_bind hf
    obtain ⟨h_8, eh_8, H, E_⟩ := H.pI rfl ta0 (by decide) (by decide) rfl (xfit_b c_9) eC_7
    refine EX.bd eh_8 ?_
    replace to3 := to3.up E_
    replace ta0 := ta0.up E_
    replace to2 := to2.up E_
    replace E := E.tr E_
    obtain ⟨C_10, eC_10, hf⟩ := x_bind hf
    obtain ⟨h_11, eh_11, N_, t_12, H, E_⟩ := H.new (ci := 9) (fs := [.null, .int 0]) (by decide) rfl eC_10
    refine EX.bd eh_11 ?_
    rw [N_]
    replace to3 := to3.up E_
    replace ta0 := ta0.up E_
    replace to2 := to2.up E_
    replace E := E.tr E_
    have Hc_ := H.cv rfl t_12 (by decide)
    obtain ⟨C_14, eC_14, hf⟩ := x_bind hf
    obtain ⟨h_13, eh_13, H, E_⟩ := g95_ok H rfl t_12 eC_14
    refine EX.bd Hc_ ?_
    refine EX.bd eh_13 ?_
    replace to3 := to3.up E_
    replace ta0 := ta0.up E_
    replace t_12 := t_12.up E_
    replace to2 := to2.up E_
    replace E := E.tr E_
    obtain ⟨C_15, eC_15, hf⟩ := x_bind hf
    obtain ⟨h_16, eh_16, H, E_⟩ := H.pR (ci := 2) (k := 1) (ty := (.object "DocFormat$Text")) rfl ta0 t_12 (by decide) (by decide) (by decide) rfl rfl eC_15
    refine EX.bd eh_16 ?_
    replace to3 := to3.up E_
    replace ta0 := ta0.up E_
    replace t_12 := t_12.up E_
    replace to2 := to2.up E_
    replace E := E.tr E_
    obtain ⟨C_17, eC_17, hf⟩ := x_bind hf
    obtain ⟨h_18, eh_18, N_, t_19, H, E_⟩ := H.nAR (tg := 18) (by decide) (by decide) eC_17
    refine EX.bd eh_18 ?_
    rw [N_]
    replace to3 := to3.up E_
    replace ta0 := ta0.up E_
    replace t_12 := t_12.up E_
    replace to2 := to2.up E_
    replace E := E.tr E_
    obtain ⟨C_20, eC_20, hf⟩ := x_bind hf
    obtain ⟨h_21, eh_21, H, E_⟩ := H.pR (ci := 2) (k := 5) (ty := (.array (.object "DocFormat$Text"))) rfl ta0 t_19 (by decide) (by decide) (by decide) rfl rfl eC_20
    refine EX.bd eh_21 ?_
    replace ta0 := ta0.up E_
    replace to2 := to2.up E_
    replace to3 := to3.up E_
    replace t_12 := t_12.up E_
    replace t_19 := t_19.up E_
    replace E := E.tr E_
    obtain rfl := Option.some.inj hf
    exact ⟨_, rfl, H, E⟩
  · replace hf := x_neg c_9 hf
    cases hf
end
section
theorem gj12_12_ok {h : xH} {C : xC} {a0 : Nat} {s0 : Int32} {r : (Int32 × xC)} (H : WH h C) (ta0 : tR C (some a0) 2) (hf : gj12_12 a0 s0 C = some r) : EX (j12_12 (some a0) s0 h) (fun z => (r.1, z)) (QC C r.2) := by
  have E := Ext.rfl' (C := C)
  unfold gj12_12 at hf
  unfold j12_12
  by_cases c_1 : s0 &&& 1 = s0
  · replace hf := x_pos c_1 hf
    refine EX.pos c_1 ?_
    obtain rfl := Option.some.inj hf
    exact ⟨_, rfl, H, E⟩
  · replace hf := x_neg c_1 hf
    cases hf
theorem g12_ok {h : xH} {C : xC} {o0 : Option Nat} {a0 : Nat} {r : (Int32 × xC)} (H : WH h C) (e0 : o0 = some a0) (ta0 : tR C o0 2) (hf : g12 a0 C = some r) : EX (fn12 o0 h) (fun z => (r.1, z)) (QC C r.2) := by
  subst e0
  have E := Ext.rfl' (C := C)
  unfold g12 at hf
  unfold fn12
  refine EX.bd (H.gR rfl ta0 (by decide) (by decide) (by decide)) ?_
  have t_1 := H.tyR rfl ta0 (ci := 2) (k := 2) (by decide) (by decide) (by decide)
  by_cases c_2 : (cR C a0 2) = none
  · replace hf := x_pos c_2 hf
    refine EX.pos c_2 ?_
    exact EX.uC E (gj12_12_ok H ta0 hf)
  · replace hf := x_neg c_2 hf
    refine EX.neg c_2 ?_
    exact EX.uC E (gj12_12_ok H ta0 hf)
end
section
theorem gj13_15_ok {h : xH} {C : xC} {a0 : Nat} {s0 : Option Nat} {r : (Option Nat × xC)} (H : WH h C) (ta0 : tR C (some a0) 2) (ts0 : tR C s0 2) (hf : gj13_15 a0 s0 C = some r) : EX (j13_15 (some a0) s0 h) (fun z => (r.1, z)) (QR 2 C r) := by
  have E := Ext.rfl' (C := C)
  unfold gj13_15 at hf
  unfold j13_15
  obtain rfl := Option.some.inj hf
  exact ⟨_, rfl, H, E, ts0⟩
theorem g13_ok {h : xH} {C : xC} {o0 : Option Nat} {a0 : Nat} {r : (Option Nat × xC)} (H : WH h C) (e0 : o0 = some a0) (ta0 : tR C o0 2) (hf : g13 a0 C = some r) : EX (fn13 o0 h) (fun z => (r.1, z)) (QR 2 C r) := by
  subst e0
  have E := Ext.rfl' (C := C)
  unfold g13 at hf
  unfold fn13
  refine EX.bd (H.gR rfl ta0 (by decide) (by decide) (by decide)) ?_
  have t_1 := H.tyR rfl ta0 (ci := 2) (k := 2) (by decide) (by decide) (by decide)
  by_cases c_2 : (cR C a0 2) = none
  · replace hf := x_pos c_2 hf
    refine EX.pos c_2 ?_
    exact EX.uR E (gj13_15_ok H ta0 ta0 hf)
  · replace hf := x_neg c_2 hf
    refine EX.neg c_2 ?_
    refine EX.bd (H.gR rfl ta0 (by decide) (by decide) (by decide)) ?_
    exact EX.uR E (gj13_15_ok H ta0 t_1 hf)
end
section
theorem gj14_15_ok {h : xH} {C : xC} {a0 : Nat} {s0 : Option Nat} {r : (Option Nat × xC)} (H : WH h C) (ta0 : tR C (some a0) 2) (ts0 : tR C s0 1) (hf : gj14_15 a0 s0 C = some r) : EX (j14_15 (some a0) s0 h) (fun z => (r.1, z)) (QR 1 C r) := by
  have E := Ext.rfl' (C := C)
  unfold gj14_15 at hf
  unfold j14_15
  obtain rfl := Option.some.inj hf
  exact ⟨_, rfl, H, E, ts0⟩
theorem g14_ok {h : xH} {C : xC} {o0 : Option Nat} {a0 : Nat} {r : (Option Nat × xC)} (H : WH h C) (e0 : o0 = some a0) (ta0 : tR C o0 2) (hf : g14 a0 C = some r) : EX (fn14 o0 h) (fun z => (r.1, z)) (QR 1 C r) := by
  subst e0
  have E := Ext.rfl' (C := C)
  unfold g14 at hf
  unfold fn14
  refine EX.bd (H.gI rfl ta0 (by decide) (by decide) rfl) ?_
  by_cases c_1 : (cI C a0 8) = 0
  · replace hf := x_pos c_1 hf
    refine EX.pos c_1 ?_
    exact EX.uR E (gj14_15_ok H ta0 tR_none hf)
  · replace hf := x_neg c_1 hf
    refine EX.neg c_1 ?_
    refine EX.bd (H.gR rfl ta0 (by decide) (by decide) (by decide)) ?_
    have t_2 := H.tyR rfl ta0 (ci := 2) (k := 7) (by decide) (by decide) (by decide)
    exact EX.uR E (gj14_15_ok H ta0 t_2 hf)
end
section
theorem gj15_22_ok {h : xH} {C : xC} {a0 : Nat} {x1 : Int32} {s0 : Option Nat} {r : (Option Nat × xC)} (H : WH h C) (ta0 : tR C (some a0) 2) (ts0 : tR C s0 9) (hf : gj15_22 a0 x1 s0 C = some r) : EX (j15_22 (some a0) x1 s0 h) (fun z => (r.1, z)) (QR 9 C r) := by
  have E := Ext.rfl' (C := C)
  unfold gj15_22 at hf
  unfold j15_22
  obtain rfl := Option.some.inj hf
  exact ⟨_, rfl, H, E, ts0⟩
theorem gj15_12_ok {h : xH} {C : xC} {a0 : Nat} {x1 : Int32} {r : (Option Nat × xC)} (H : WH h C) (ta0 : tR C (some a0) 2) (hf : gj15_12 a0 x1 C = some r) : EX (j15_12 (some a0) x1 h) (fun z => (r.1, z)) (QR 9 C r) := by
  have E := Ext.rfl' (C := C)
  unfold gj15_12 at hf
  unfold j15_12
  exact EX.uR E (gj15_22_ok H ta0 tR_none hf)
theorem g15_ok {h : xH} {C : xC} {o0 : Option Nat} {a0 : Nat} {x1 : Int32} {r : (Option Nat × xC)} (H : WH h C) (e0 : o0 = some a0) (ta0 : tR C o0 2) (hf : g15 a0 x1 C = some r) : EX (fn15 o0 x1 h) (fun z => (r.1, z)) (QR 9 C r) := by
  subst e0
  have E := Ext.rfl' (C := C)
  unfold g15 at hf
  unfold fn15
  by_cases c_1 : x1 < 0
  · replace hf := x_pos c_1 hf
    refine EX.pos c_1 ?_
    exact EX.uR E (gj15_12_ok H ta0 hf)
  · replace hf := x_neg c_1 hf
    refine EX.neg c_1 ?_
    refine EX.bd (H.gI rfl ta0 (by decide) (by decide) rfl) ?_
    by_cases c_2 : x1 < (cI C a0 6)
    · replace hf := x_pos c_2 hf
      refine EX.pos c_2 ?_
      refine EX.bd (H.gR rfl ta0 (by decide) (by decide) (by decide)) ?_
      have t_3 := H.tyR rfl ta0 (ci := 2) (k := 5) (by decide) (by decide) (by decide)
      obtain ⟨a_5, ea_5, hf⟩ := x_bind hf
      obtain ⟨o_4, eo_4, hf⟩ := x_bind hf
      refine EX.bd (H.lR ea_5 t_3 (by decide) (by decide) eo_4) ?_
      have t_6 := H.tL ea_5 t_3 (ci := 18) (by decide) (by decide) eo_4
      exact EX.uR E (gj15_22_ok H ta0 t_6 hf)
    · replace hf := x_neg c_2 hf
      refine EX.neg c_2 ?_
      exact EX.uR E (gj15_12_ok H ta0 hf)
end
section
theorem gj16_38_ok {k3 : Nat → Option Nat → Int32 → Int32 → Int32 → xC → Option (Int32 × xC)} {f3 : Option Nat → Option Nat → Int32 → Int32 → Int32 → xH → Option (Int32 × xH)} (hk3 : ∀ {h : xH} {C : xC} {a0 : Nat} {o1 : Option Nat} {x2 : Int32} {x3 : Int32} {x4 : Int32} {r : (Int32 × xC)}, WH h C → tR C (some a0) 2 → tR C o1 9 → k3 a0 o1 x2 x3 x4 C = some r → EX (f3 (some a0) o1 x2 x3 x4 h) (fun z => (r.1, z)) (QC C r.2)) {h : xH} {C : xC} {a0 : Nat} {o1 : Option Nat} {x2 : Int32} {x3 : Int32} {x4 : Int32} {o5 : Option Nat} {r : (Int32 × xC)} (H : WH h C) (ta0 : tR C (some a0) 2) (to1 : tR C o1 9) (to5 : tR C o5 9) (hf : gj16_38 k3 a0 o1 x2 x3 x4 o5 C = some r) : EX (j16_38 f3 (some a0) o1 x2 x3 x4 o5 h) (fun z => (r.1, z)) (QC C r.2) := by
  have E := Ext.rfl' (C := C)
  unfold gj16_38 at hf
  unfold j16_38
  exact EX.uC E (hk3 H ta0 to1 hf)
theorem gl16_3_ok : ∀ (n : Nat) {h : xH} {C : xC} {a0 : Nat} {o1 : Option Nat} {x2 : Int32} {x3 : Int32} {x4 : Int32} {r : (Int32 × xC)} (H : WH h C) (ta0 : tR C (some a0) 2) (to1 : tR C o1 9), gl16_3 n a0 o1 x2 x3 x4 C = some r → EX (l16_3 n (some a0) o1 x2 x3 x4 h) (fun z => (r.1, z)) (QC C r.2) := by
  intro n
  induction n with
  | zero => intros; rename_i hf; cases hf
  | succ n ih =>
    intro h C a0 o1 x2 x3 x4 r H ta0 to1 hf
    have E := Ext.rfl' (C := C)
    replace hf : ((if (cI C a0 6) ≤ x4 then some (0, C) else (g15 a0 x4 C).bind fun r_3 => (if r_3.1 = none then gj16_38 (gl16_3 n) a0 o1 x2 x3 x4 r_3.1 r_3.2 else (r_3.1).bind fun a_8 => (g103 a_8 o1 x2 x3 r_3.2).bind fun r_7 => (if r_7.1 = 0 then gj16_38 (gl16_3 n) a0 o1 x2 x3 x4 r_3.1 r_7.2 else some (1, r_7.2))))) = some r := hf
    unfold l16_3
    refine EX.bd (H.gI rfl ta0 (by decide) (by decide) rfl) ?_
    by_cases c_1 : (cI C a0 6) ≤ x4
    · replace hf := x_pos c_1 hf
      refine EX.pos c_1 ?_
      obtain rfl := Option.some.inj hf
      exact ⟨_, rfl, H, E⟩
    · replace hf := x_neg c_1 hf
      refine EX.neg c_1 ?_
      have Hc_ := H.cv rfl ta0 (by decide)
      obtain ⟨r_3, er_3, hf⟩ := x_bind hf
      obtain ⟨h_2, eh_2, H, E_, t_4⟩ := g15_ok H rfl ta0 er_3
      refine EX.bd Hc_ ?_
      refine EX.bd eh_2 ?_
      dsimp only
      replace to1 := to1.up E_
      replace ta0 := ta0.up E_
      replace E := E.tr E_
      by_cases c_5 : r_3.1 = none
      · replace hf := x_pos c_5 hf
        refine EX.pos c_5 ?_
        exact EX.uC E (gj16_38_ok (k3 := (gl16_3 n)) (f3 := (l16_3 n)) ih H ta0 to1 t_4 hf)
      · replace hf := x_neg c_5 hf
        refine EX.neg c_5 ?_
        obtain ⟨a_8, ea_8, hf⟩ := x_bind hf
        have Hc_ := H.cv ea_8 t_4 (by decide)
        obtain ⟨r_7, er_7, hf⟩ := x_bind hf
        obtain ⟨h_6, eh_6, H, E_⟩ := g103_ok H ea_8 t_4 to1 er_7
        refine EX.bd Hc_ ?_
        refine EX.bd eh_6 ?_
        dsimp only
        replace to1 := to1.up E_
        replace ta0 := ta0.up E_
        replace t_4 := t_4.up E_
        replace E := E.tr E_
        by_cases c_9 : r_7.1 = 0
        · replace hf := x_pos c_9 hf
          refine EX.pos c_9 ?_
          exact EX.uC E (gj16_38_ok (k3 := (gl16_3 n)) (f3 := (l16_3 n)) ih H ta0 to1 t_4 hf)
        · replace hf := x_neg c_9 hf
          refine EX.neg c_9 ?_
          obtain rfl := Option.some.inj hf
          exact ⟨_, rfl, H, E⟩
theorem g16_ok {h : xH} {C : xC} {o0 : Option Nat} {a0 : Nat} {o1 : Option Nat} {x2 : Int32} {x3 : Int32} {r : (Int32 × xC)} (H : WH h C) (e0 : o0 = some a0) (ta0 : tR C o0 2) (to1 : tR C o1 9) (hf : g16 a0 o1 x2 x3 C = some r) : EX (fn16 o0 o1 x2 x3 h) (fun z => (r.1, z)) (QC C r.2) := by
  subst e0
  have E := Ext.rfl' (C := C)
  unfold g16 at hf
  unfold fn16
  exact EX.uC E (gl16_3_ok xFuel H ta0 to1 hf)
end
section
theorem g17_ok {h : xH} {C : xC} {o0 : Option Nat} {a0 : Nat} {o1 : Option Nat} {r : (Int32 × xC)} (H : WH h C) (e0 : o0 = some a0) (ta0 : tR C o0 2) (to1 : tR C o1 9) (hf : g17 a0 o1 C = some r) : EX (fn17 o0 o1 h) (fun z => (r.1, z)) (QC C r.2) := by
  subst e0
  have E := Ext.rfl' (C := C)
  unfold g17 at hf
  unfold fn17
  refine EX.bd (H.gI rfl ta0 (by decide) (by decide) rfl) ?_
  refine EX.bd (H.gR rfl ta0 (by decide) (by decide) (by decide)) ?_
  have t_1 := H.tyR rfl ta0 (ci := 2) (k := 5) (by decide) (by decide) (by decide)
  obtain ⟨a_2, ea_2, hf⟩ := x_bind hf
  refine EX.bd (H.len ea_2 t_1 (by decide) (by decide)) ?_
  by_cases c_3 : (cI C a0 6) < (Int32.ofNat (cK C a_2).2)
  · replace hf := x_pos c_3 hf
    refine EX.pos c_3 ?_
    obtain ⟨C_4, eC_4, hf⟩ := x_bind hf
    obtain ⟨h_5, eh_5, N_, t_6, H, E_⟩ := H.new (ci := 9) (fs := [.null, .int 0]) (by decide) rfl eC_4
    refine EX.bd eh_5 ?_
    rw [N_]
    replace to1 := to1.up E_
    replace ta0 := ta0.up E_
    replace t_1 := t_1.up E_
    replace E := E.tr E_
    have Hc_ := H.cv rfl t_6 (by decide)
    obtain ⟨C_8, eC_8, hf⟩ := x_bind hf
    obtain ⟨h_7, eh_7, H, E_⟩ := g95_ok H rfl t_6 eC_8
    refine EX.bd Hc_ ?_
    refine EX.bd eh_7 ?_
    replace to1 := to1.up E_
    replace t_6 := t_6.up E_
    replace ta0 := ta0.up E_
    replace t_1 := t_1.up E_
    replace E := E.tr E_
    have Hc_ := H.cv rfl t_6 (by decide)
    obtain ⟨C_10, eC_10, hf⟩ := x_bind hf
    obtain ⟨h_9, eh_9, H, E_⟩ := g102_ok H rfl t_6 to1 eC_10
    refine EX.bd Hc_ ?_
    refine EX.bd eh_9 ?_
    replace to1 := to1.up E_
    replace t_6 := t_6.up E_
    replace ta0 := ta0.up E_
    replace t_1 := t_1.up E_
    replace E := E.tr E_
    refine EX.bd (H.gR rfl ta0 (by decide) (by decide) (by decide)) ?_
    have t_11 := H.tyR rfl ta0 (ci := 2) (k := 5) (by decide) (by decide) (by decide)
    refine EX.bd (H.gI rfl ta0 (by decide) (by decide) rfl) ?_
    obtain ⟨a_14, ea_14, hf⟩ := x_bind hf
    obtain ⟨C_12, eC_12, hf⟩ := x_bind hf
    obtain ⟨h_13, eh_13, H, E_⟩ := H.sR ea_14 t_11 (tg := 18) (by decide) (by decide) t_6 eC_12
    refine EX.bd eh_13 ?_
    replace t_6 := t_6.up E_
    replace t_1 := t_1.up E_
    replace t_11 := t_11.up E_
    replace ta0 := ta0.up E_
    replace to1 := to1.up E_
    replace E := E.tr E_
    refine EX.bd (H.gI rfl ta0 (by decide) (by decide) rfl) ?_
    obtain ⟨C_15, eC_15, hf⟩ := x_bind hf
    obtain ⟨h_16, eh_16, H, E_⟩ := H.pI rfl ta0 (by decide) (by decide) rfl (xfit_int _) eC_15
    refine EX.bd eh_16 ?_
    replace t_6 := t_6.up E_
    replace t_1 := t_1.up E_
    replace t_11 := t_11.up E_
    replace ta0 := ta0.up E_
    replace to1 := to1.up E_
    replace E := E.tr E_
    refine EX.bd (H.gI rfl ta0 (by decide) (by decide) rfl) ?_
    obtain rfl := Option.some.inj hf
    exact ⟨_, rfl, H, E⟩
  · replace hf := x_neg c_3 hf
    refine EX.neg c_3 ?_
    obtain rfl := Option.some.inj hf
    exact ⟨_, rfl, H, E⟩
end
section
theorem g18_ok {h : xH} {C : xC} {o0 : Option Nat} {a0 : Nat} {r : xC} (H : WH h C) (e0 : o0 = some a0) (ta0 : tR C o0 3) (hf : g18 a0 C = some r) : EX (fn18 o0 h) (fun z => z) (QC C r) := by
  subst e0
  have E := Ext.rfl' (C := C)
  unfold g18 at hf
  unfold fn18
  refine EX.bdS ?_
  obtain ⟨C_1, eC_1, hf⟩ := x_bind hf
  obtain ⟨h_2, eh_2, N_, t_3, H, E_⟩ := H.nAR (tg := 15) (by decide) (by decide) eC_1
  refine EX.bd eh_2 ?_
  rw [N_]
  replace ta0 := ta0.up E_
  replace E := E.tr E_
  obtain ⟨C_4, eC_4, hf⟩ := x_bind hf
  obtain ⟨h_5, eh_5, H, E_⟩ := H.pR (ci := 3) (k := 0) (ty := (.array (.object "DocFormat$Block"))) rfl ta0 t_3 (by decide) (by decide) (by decide) rfl rfl eC_4
  refine EX.bd eh_5 ?_
  replace t_3 := t_3.up E_
  replace ta0 := ta0.up E_
  replace E := E.tr E_
  obtain ⟨C_6, eC_6, hf⟩ := x_bind hf
  obtain ⟨h_7, eh_7, N_, t_8, H, E_⟩ := H.new (ci := 9) (fs := [.null, .int 0]) (by decide) rfl eC_6
  refine EX.bd eh_7 ?_
  rw [N_]
  replace t_3 := t_3.up E_
  replace ta0 := ta0.up E_
  replace E := E.tr E_
  have Hc_ := H.cv rfl t_8 (by decide)
  obtain ⟨C_10, eC_10, hf⟩ := x_bind hf
  obtain ⟨h_9, eh_9, H, E_⟩ := g95_ok H rfl t_8 eC_10
  refine EX.bd Hc_ ?_
  refine EX.bd eh_9 ?_
  replace t_3 := t_3.up E_
  replace ta0 := ta0.up E_
  replace t_8 := t_8.up E_
  replace E := E.tr E_
  obtain ⟨C_11, eC_11, hf⟩ := x_bind hf
  obtain ⟨h_12, eh_12, H, E_⟩ := H.pR (ci := 3) (k := 2) (ty := (.object "DocFormat$Text")) rfl ta0 t_8 (by decide) (by decide) (by decide) rfl rfl eC_11
  refine EX.bd eh_12 ?_
  replace t_3 := t_3.up E_
  replace ta0 := ta0.up E_
  replace t_8 := t_8.up E_
  replace E := E.tr E_
  obtain ⟨C_13, eC_13, hf⟩ := x_bind hf
  obtain ⟨h_14, eh_14, N_, t_15, H, E_⟩ := H.nAI (tg := 13) (by decide) (by decide) eC_13
  refine EX.bd eh_14 ?_
  rw [N_]
  replace t_3 := t_3.up E_
  replace ta0 := ta0.up E_
  replace t_8 := t_8.up E_
  replace E := E.tr E_
  obtain ⟨C_16, eC_16, hf⟩ := x_bind hf
  obtain ⟨h_17, eh_17, H, E_⟩ := H.pR (ci := 3) (k := 3) (ty := (.array .int)) rfl ta0 t_15 (by decide) (by decide) (by decide) rfl rfl eC_16
  refine EX.bd eh_17 ?_
  replace t_15 := t_15.up E_
  replace t_3 := t_3.up E_
  replace ta0 := ta0.up E_
  replace t_8 := t_8.up E_
  replace E := E.tr E_
  obtain ⟨C_18, eC_18, hf⟩ := x_bind hf
  obtain ⟨h_19, eh_19, N_, t_20, H, E_⟩ := H.nAI (tg := 13) (by decide) (by decide) eC_18
  refine EX.bd eh_19 ?_
  rw [N_]
  replace t_15 := t_15.up E_
  replace t_3 := t_3.up E_
  replace ta0 := ta0.up E_
  replace t_8 := t_8.up E_
  replace E := E.tr E_
  obtain ⟨C_21, eC_21, hf⟩ := x_bind hf
  obtain ⟨h_22, eh_22, H, E_⟩ := H.pR (ci := 3) (k := 5) (ty := (.array .int)) rfl ta0 t_20 (by decide) (by decide) (by decide) rfl rfl eC_21
  refine EX.bd eh_22 ?_
  replace t_20 := t_20.up E_
  replace t_15 := t_15.up E_
  replace t_3 := t_3.up E_
  replace ta0 := ta0.up E_
  replace t_8 := t_8.up E_
  replace E := E.tr E_
  obtain ⟨C_23, eC_23, hf⟩ := x_bind hf
  obtain ⟨h_24, eh_24, N_, t_25, H, E_⟩ := H.nAI (tg := 13) (by decide) (by decide) eC_23
  refine EX.bd eh_24 ?_
  rw [N_]
  replace t_20 := t_20.up E_
  replace t_15 := t_15.up E_
  replace t_3 := t_3.up E_
  replace ta0 := ta0.up E_
  replace t_8 := t_8.up E_
  replace E := E.tr E_
  obtain ⟨C_26, eC_26, hf⟩ := x_bind hf
  obtain ⟨h_27, eh_27, H, E_⟩ := H.pR (ci := 3) (k := 6) (ty := (.array .int)) rfl ta0 t_25 (by decide) (by decide) (by decide) rfl rfl eC_26
  refine EX.bd eh_27 ?_
  replace t_20 := t_20.up E_
  replace t_15 := t_15.up E_
  replace t_3 := t_3.up E_
  replace t_25 := t_25.up E_
  replace ta0 := ta0.up E_
  replace t_8 := t_8.up E_
  replace E := E.tr E_
  obtain rfl := Option.some.inj hf
  exact ⟨_, rfl, H, E⟩
end
