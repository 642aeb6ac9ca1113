section XPURE
theorem xgI_of {h : xH} {a ci k : Nat} {fs : List Value} {x : Int32} (hc : h.2.2 a = (ci, fs)) (ha : a < h.1) (hci : ci < 12) (hv : fs[k]? = some (.int x)) : xgI h (some a) ci k = some x := by
  unfold xgI xgV
  simp [hc, ha, hci, hv, xiv]
theorem xgR_of {h : xH} {a ci k : Nat} {fs : List Value} {o : Option Nat} (hc : h.2.2 a = (ci, fs)) (ha : a < h.1) (hci : ci < 12) (hv : fs[k]? = some (xrv o)) : xgR h (some a) ci k = some o := by
  unfold xgR xgV
  simp only [hc, ha, hci, and_self, if_true, hv]
  cases o <;> rfl
theorem xpF_of {h : xH} {a ci k : Nat} {fs : List Value} {ty : FieldType} {v : Value} (hc : h.2.2 a = (ci, fs)) (ha : a < h.1) (hci : ci < 12) (hk : k < fs.length) (hf : xfit ty v = true) : xpF h (some a) ci k ty v = some (xset h a (ci, fs.set k v)) := by
  unfold xpF
  simp [hc, ha, hci, hk, hf]
theorem xcv_of {h : xH} {a ci : Nat} {fs : List Value} (hc : h.2.2 a = (ci, fs)) (ha : a < h.1) (hci : ci < 12) : xcv h (some a) ci = some () := by
  unfold xcv
  simp [hc, ha, hci]
theorem xaI_of {h : xH} {a tg : Nat} {vs : List Value} {i : Nat} {x : Int32} (hc : h.2.2 a = (tg, vs)) (ha : a < h.1) (hl : vs.length < 2 ^ 31) (hv : vs[i]? = some (.int x)) : xaI h tg (some a) (nI i) = some x := by
  have hi : i < vs.length := (List.getElem?_eq_some_iff.mp hv).1
  have h31 : i < 2 ^ 31 := by omega
  unfold xaI xaV
  have ho : xout (nI i) vs.length = false := decide_eq_false (nI_in hi hl)
  simp only [hc, ha, ho, nI_clamp h31, hv]
  simp [xiv]
theorem xaN_of {h : xH} {a tg : Nat} {vs : List Value} (hc : h.2.2 a = (tg, vs)) (ha : a < h.1) (h1 : 12 ≤ tg) (h2 : tg < 19) : xaN h (some a) = some (nI vs.length) := by
  unfold xaN
  simp [hc, ha, h1, h2, nI]
theorem xaS_of {h : xH} {a tg : Nat} {vs : List Value} {i : Nat} {x : Int32} {f : Int32 → Int32} (hc : h.2.2 a = (tg, vs)) (ha : a < h.1) (hl : vs.length < 2 ^ 31) (hi : i < vs.length) : xaS h tg f (some a) (nI i) x = some (xset h a (tg, vs.set i (.int (f x)))) := by
  have h31 : i < 2 ^ 31 := by omega
  unfold xaS
  have ho : xout (nI i) vs.length = false := decide_eq_false (nI_in hi hl)
  simp only [hc, ha, ho, nI_clamp h31]
  simp
theorem xset_at {h : xH} {a : Nat} {c : Nat × List Value} : (xset h a c).2.2 a = c := by simp [xset]
theorem xset_ne {h : xH} {a b : Nat} {c : Nat × List Value} (hb : b ≠ a) : (xset h a c).2.2 b = h.2.2 b := by simp [xset, hb]
theorem xfit_int (x : Int32) : xfit .int (.int x) = true := by simp [xfit, narrow, fits]
/-- a Text at t with its bytes at b -/
def TextAt (h : xH) (t b room : Nat) (bs : List Nat) : Prop := t < h.1 ∧ b < h.1 ∧ t ≠ b ∧ h.2.2 t = (9, [.ref b, .int (nI bs.length)]) ∧ room < 2 ^ 30 ∧ bs.length ≤ room ∧ (∀ c ∈ bs, c < 256) ∧ ∃ vs, h.2.2 b = (12, vs) ∧ vs.length = room ∧ ∀ i, i < bs.length → vs[i]? = some (.int (sb_b (bs.getD i 0)))
/-- the byte at a place; -1: none -/
def bAt (bs : List Nat) (x : Int32) : Int32 := if x < 0 then -1 else if x < nI bs.length then nI (bs.getD x.toNatClampNeg 0) else -1
theorem fn96_spec {h : xH} {t b room : Nat} {bs : List Nat} (hT : TextAt h t b room bs) (x : Int32) : fn96 (some t) x h = some (bAt bs x, h) := by
  obtain ⟨ht, hb, hne, hct, hr, hl, hby, vs, hcb, hvl, hvs⟩ := hT
  unfold fn96 bAt
  by_cases h1 : x < 0
  · simp only [if_pos h1]
    rfl
  · simp only [if_neg h1]
    rw [xgI_of hct ht (by omega) (k := 1) rfl]
    simp only [Option.bind_some]
    obtain ⟨j, hj, rfl⟩ := nI_of h1
    by_cases h2 : nI j < nI bs.length
    · have h3 : j < bs.length := (nI_ltI hj (by omega)).mp h2
      simp only [if_pos h2]
      rw [xgR_of hct ht (by omega) (k := 0) (o := some b) rfl]
      simp only [Option.bind_some]
      rw [xaI_of hcb hb (by omega) (hvs j h3)]
      simp only [Option.bind_some]
      rw [nI_clamp hj]
      have h4 : bs.getD j 0 < 256 := by
        rw [List.getD_eq_getElem?_getD, List.getElem?_eq_getElem h3]
        exact hby _ (List.getElem_mem h3)
      show some (sb_b (bs.getD j 0) &&& 255, h) = _
      rw [(sb_byte _ h4).1]
    · simp only [if_neg h2]
      rfl
theorem fn101_spec {h : xH} {t b room : Nat} {bs : List Nat} (hT : TextAt h t b room bs) (n : Nat) (hn : n ≤ bs.length) : ∃ h', fn101 (some t) (nI n) h = some h' ∧ TextAt h' t b room (bs.take n) ∧ h'.1 = h.1 ∧ h'.2.1 = h.2.1 ∧ ∀ a, a ≠ t → h'.2.2 a = h.2.2 a := by
  obtain ⟨ht, hb, hne, hct, hr, hl, hby, vs, hcb, hvl, hvs⟩ := hT
  have hlen : (bs.take n).length = n := by simp [hn]
  unfold fn101
  have h0 : ¬ nI n < 0 := nI_pos (by omega)
  simp only [if_neg h0]
  rw [xgI_of hct ht (by omega) (k := 1) rfl]
  simp only [Option.bind_some]
  by_cases h1 : nI bs.length ≤ nI n
  · have h2 : n = bs.length := by
      have := (nI_leI (by omega) (by omega)).mp h1
      omega
    simp only [if_pos h1]
    subst h2
    refine ⟨h, rfl, ?_, rfl, rfl, fun _ _ => rfl⟩
    rw [List.take_length]
    exact ⟨ht, hb, hne, hct, hr, hl, hby, vs, hcb, hvl, hvs⟩
  · simp only [if_neg h1]
    rw [xpF_of hct ht (by omega) (by simp) (xfit_int _)]
    refine ⟨_, rfl, ⟨ht, hb, hne, ?_, hr, by omega, fun c hc => hby c (List.mem_of_mem_take hc), vs, ?_, hvl, fun i hi => ?_⟩, rfl, rfl, fun a ha => xset_ne ha⟩
    · rw [xset_at, hlen]
      rfl
    · rw [xset_ne (Ne.symm hne)]
      exact hcb
    · rw [hlen] at hi
      rw [hvs i (by omega)]
      simp [List.getD_eq_getElem?_getD, List.getElem?_take, hi]
/-- the byte of a number -/
def bOf (x : Int32) : Nat := x.toBitVec.toNat % 256
theorem bOf_lt (x : Int32) : bOf x < 256 := Nat.mod_lt _ (by decide)
theorem bOf_st (x : Int32) : vp_nar .byte x.toInt8.toInt32 = sb_b (bOf x) := by
  rw [vp_nar_byte]
  unfold sb_b bOf nI
  have e : ((Int32.ofNat (x.toBitVec.toNat % 256)).toInt8) = x.toInt8 := by
    apply Int8.toBitVec_inj.mp
    apply BitVec.eq_of_toNat_eq
    simp
    rw [BitVec.signExtend_eq_setWidth_of_le _ (by decide), BitVec.toNat_setWidth]
  rw [e]
  apply Int32.toBitVec_inj.mp
  simp
theorem fn97_spec {h : xH} {t b room : Nat} {bs : List Nat} (hT : TextAt h t b room bs) (x : Int32) : if bs.length < room then ∃ h', fn97 (some t) x h = some (1, h') ∧ TextAt h' t b room (bs ++ [bOf x]) ∧ h'.1 = h.1 ∧ h'.2.1 = h.2.1 ∧ ∀ a, a ≠ t → a ≠ b → h'.2.2 a = h.2.2 a else fn97 (some t) x h = some (0, h) := by
  obtain ⟨ht, hb, hne, hct, hr, hl, hby, vs, hcb, hvl, hvs⟩ := hT
  unfold fn97
  rw [xgI_of hct ht (by omega) (k := 1) rfl, xgR_of hct ht (by omega) (k := 0) (o := some b) rfl]
  simp only [Option.bind_some]
  rw [xaN_of hcb hb (by omega) (by omega)]
  simp only [Option.bind_some]
  by_cases h1 : bs.length < room
  · have h2 : nI bs.length < nI vs.length := (nI_ltI (by omega) (by omega)).mpr (by omega)
    simp only [if_pos h1, if_pos h2]
    rw [xaS_of hcb hb (by omega) (show bs.length < vs.length by omega)]
    simp only [Option.bind_some]
    have hct2 : (xset h b (12, vs.set bs.length (.int (vp_nar .byte x.toInt8.toInt32)))).2.2 t = (9, [.ref b, .int (nI bs.length)]) := by rw [xset_ne hne]; exact hct
    rw [xgI_of hct2 ht (by omega) (k := 1) rfl]
    simp only [Option.bind_some]
    rw [xpF_of hct2 ht (by omega) (by simp) (xfit_int _)]
    refine ⟨_, rfl, ⟨ht, hb, hne, ?_, hr, by simp; omega, ?_, vs.set bs.length (.int (vp_nar .byte x.toInt8.toInt32)), ?_, by simpa using hvl, ?_⟩, rfl, rfl, fun a ha1 ha2 => ?_⟩
    · rw [xset_at]
      simp [nI_1]
    · intro c hc
      rcases List.mem_append.mp hc with hc | hc
      · exact hby c hc
      · rw [List.mem_singleton.mp hc]
        exact bOf_lt x
    · rw [xset_ne (Ne.symm hne), xset_at]
    · intro i hi
      have hi : i < bs.length + 1 := by simpa using hi
      rw [List.getElem?_set]
      by_cases hii : bs.length = i
      · subst hii
        rw [if_pos rfl, if_pos (by omega), bOf_st]
        simp [List.getD_eq_getElem?_getD]
      · rw [if_neg hii, hvs i (by omega)]
        simp [List.getD_eq_getElem?_getD, List.getElem?_append_left (show i < bs.length by omega)]
    · rw [xset_ne ha1, xset_ne ha2]
  · have h2 : ¬ nI bs.length < nI vs.length := fun h9 => h1 (by have := (nI_ltI (by omega) (by omega)).mp h9; omega)
    simp only [if_neg h1, if_neg h2]
end XPURE
