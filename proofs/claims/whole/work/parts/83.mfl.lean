section PMFL
variable {S : mS} {es : List En}
theorem isTg_iff {s : Nat} : isTg s = true ↔ 2 ≤ s ∧ s ≤ 6 := by simp [isTg]
/-- what block k of an entry gives to a story -/
def gX (es : List En) (nx : List (Nat × Nat)) (e k : Nat) : List (Nat × Nat) := if bSo ((gC es e).2.1.getD k bkD) = 7 then nx else if isTg (bSo ((gC es e).2.1.getD k bkD)) = true then [] else [(e, k)]
/-- the story by numbers of blocks -/
def stI (es : List En) : Nat → Option Nat → List (Nat × Nat)
  | 0, _ => []
  | _ + 1, none => []
  | n + 1, some e => (List.range' 0 (gC es e).2.1.length).flatMap (gX es (stI es n (cnt es 40 (abv es e))) e)
theorem flatMap_range {α β : Type} (f : α → List β) (d : α) : ∀ l : List α, l.flatMap f = (List.range' 0 l.length).flatMap fun k => f (l.getD k d) := by
  intro l
  have g : ∀ m k, k + m = l.length → (l.drop k).flatMap f = (List.range' k m).flatMap fun k => f (l.getD k d) := by
    intro m
    induction m with
    | zero =>
      intro k hk
      rw [List.drop_eq_nil_of_le (by omega)]
      rfl
    | succ m ih =>
      intro k hk
      have hlt : k < l.length := by omega
      rw [List.drop_eq_getElem_cons hlt, List.range'_succ, List.flatMap_cons, List.flatMap_cons, ih (k + 1) (by omega)]
      congr 2
      simp [List.getD_eq_getElem?_getD, hlt]
  have := g l.length 0 (by omega)
  rw [List.drop_zero] at this
  exact this
theorem story_I : ∀ n (o : Option Nat), story es n o = (stI es n o).map fun q => (q.1, (gC es q.1).2.1.getD q.2 bkD) := by
  intro n
  induction n with
  | zero => intro o; rfl
  | succ n ih =>
    intro o
    cases o with
    | none => rfl
    | some e =>
      rw [story, stI, flatMap_range _ bkD, List.map_flatMap]
      congr 1
      funext k
      unfold gX
      split
      · exact ih _
      · split <;> rfl
theorem rk_cnt (w : wE es) : ∀ n (o : Option Nat) x, (∀ e, o = some e → e < es.length) → cnt es n o = some x → rk es (some x) ≤ rk es o := by
  intro n
  induction n with
  | zero => intro o x _ h; cases h
  | succ n ih =>
    intro o x h1 h
    cases o with
    | none => cases h
    | some e =>
      rw [cnt] at h
      split at h
      · cases h
        exact Nat.le_refl _
      · have he := h1 e rfl
        have := ih (abv es e) x (fun a ha => (abv_lt w he ha).1) h
        have := rk_abv w he
        omega
theorem rk_pos {e : Nat} : 0 < rk es (some e) := by
  unfold rk
  dsimp only
  split <;> omega
/-- to what {inherit} leads -/
def inh (es : List En) (e : Nat) : Option Nat := cnt es 40 (abv es e)
theorem inh_rk (w : wE es) {e : Nat} (he : e < es.length) : rk es (inh es e) < rk es (some e) ∧ ∀ x, inh es e = some x → x < es.length ∧ (eCm (gE es x)).isSome = true := by
  have hr := rk_abv w he
  have ha : ∀ a, abv es e = some a → a < es.length := fun a h => (abv_lt w he h).1
  constructor
  · cases h : inh es e with
    | none => exact rk_pos
    | some x =>
      have := rk_cnt w 40 (abv es e) x ha h
      omega
  · intro x hx
    exact cnt_lt w 40 (abv es e) x ha hx
theorem gX_len (nx : List (Nat × Nat)) (e : Nat) : ∀ m, m ≤ (gC es e).2.1.length → ((List.range' 0 m).flatMap (gX es nx e)).length ≤ m + (((gC es e).2.1.take m).filter fun b => bSo b == 7).length * nx.length := by
  intro m
  induction m with
  | zero => intro _; simp
  | succ m ih =>
    intro hm
    have h1 := ih (by omega)
    rw [List.range'_concat, List.flatMap_append, List.length_append, take_s bkD (by omega), List.filter_append, List.length_append, Nat.add_mul]
    simp only [Nat.zero_add, Nat.one_mul, List.flatMap_cons, List.flatMap_nil, List.append_nil]
    unfold gX at h1 ⊢
    by_cases h7 : bSo ((gC es e).2.1.getD m bkD) = 7
    · rw [if_pos h7, show ([(gC es e).2.1.getD m bkD].filter fun b => bSo b == 7).length = 1 by simp only [List.filter_cons, h7, BEq.rfl, if_true, List.filter_nil, List.length_singleton]]
      omega
    · rw [if_neg h7]
      have : (if isTg (bSo ((gC es e).2.1.getD m bkD)) = true then ([] : List (Nat × Nat)) else [(e, m)]).length ≤ 1 := by split <;> simp
      omega
theorem stI_len (w : wE es) : ∀ n (o : Option Nat), (∀ e, o = some e → e < es.length) → (stI es n o).length ≤ 24 * rk es o := by
  intro n
  induction n with
  | zero => intro o _; exact Nat.zero_le _
  | succ n ih =>
    intro o ho
    cases o with
    | none => exact Nat.zero_le _
    | some e =>
      have he := ho e rfl
      obtain ⟨c1, _, _, _, c5, _⟩ := gC_bd w he
      have h1 := gX_len (es := es) (stI es n (inh es e)) e (gC es e).2.1.length (Nat.le_refl _)
      rw [List.take_length] at h1
      have h2 := ih (inh es e) fun x hx => ((inh_rk w he).2 x hx).1
      have h3 := (inh_rk w he).1
      show ((List.range' 0 (gC es e).2.1.length).flatMap (gX es (stI es n (inh es e)) e)).length ≤ _
      have h4 : ((gC es e).2.1.filter fun b => bSo b == 7).length * (stI es n (inh es e)).length ≤ 1 * (stI es n (inh es e)).length := Nat.mul_le_mul_right _ c5
      omega
theorem stI_up (w : wE es) : ∀ n m (o : Option Nat), rk es o ≤ n → rk es o ≤ m → (∀ e, o = some e → e < es.length) → stI es n o = stI es m o := by
  intro n
  induction n with
  | zero =>
    intro m o h1 h2 h3
    cases o with
    | none => cases m <;> rfl
    | some e => have := rk_pos (es := es) (e := e); omega
  | succ n ih =>
    intro m o h1 h2 h3
    cases o with
    | none => cases m <;> rfl
    | some e =>
      have he := h3 e rfl
      have hr := (inh_rk w he).1
      obtain ⟨m, rfl⟩ : ∃ k, m = k + 1 := ⟨m - 1, by omega⟩
      rw [stI, stI]
      have := ih m (inh es e) (by omega) (by omega) fun x hx => ((inh_rk w he).2 x hx).1
      unfold inh at this
      rw [this]
/-- what a frame of the stack still gives -/
def frm (es : List En) (r k : Nat) (o : Option Nat) : List (Nat × Nat) := match o with
  | none => []
  | some e => (List.range' k ((gC es e).2.1.length - k)).flatMap (gX es (stI es r (inh es e)) e)
theorem stI_f (r : Nat) (o : Option Nat) : stI es (r + 1) o = frm es r 0 o := by cases o <;> rfl
def frc (es : List En) (k : Nat) (o : Option Nat) : Nat := match o with
  | none => 1
  | some e => ((gC es e).2.1.length - k) + 1 + (((gC es e).2.1.drop k).filter fun b => bSo b == 7).length * (1 + 26 * (rk es (some e) - 1))
def qS (S : mS) (l : List (Nat × Nat)) : Prop := S.1 68 = nI l.length ∧ ∀ i, i < l.length → S.2 66 i = nI (l.getD i (0, 0)).1 ∧ S.2 67 i = nI (24 * (l.getD i (0, 0)).1 + (l.getD i (0, 0)).2)
abbrev flD (S S' : mS) : Prop := df [68] [66, 67, 69, 70] S S'
theorem mEs_fl {S' : mS} (D : flD S S') (H : mEs S es) (w : wE es) : mEs S' es := mEs_df D ⟨by decide, by decide⟩ H w
/-- below a place of the stack nothing changes -/
def loS (d : Nat) (S S' : mS) : Prop := ∀ i, i < d → S'.2 69 i = S.2 69 i ∧ S'.2 70 i = S.2 70 i
theorem loS.tr {d : Nat} {S1 S2 : mS} (a : loS d S S1) (b : loS d S1 S2) : loS d S S2 := fun i hi => ⟨(b i hi).1.trans (a i hi).1, (b i hi).2.trans (a i hi).2⟩
/-- a frame of the stack comes to its end -/
theorem g212_f (w : wE es) (x1 : Int32) : ∀ r (o : Option Nat) d k (l : List (Nat × Nat)) (S : mS), rk es o ≤ r → (∀ e, o = some e → e < es.length) → 1 ≤ d → d + rk es o ≤ 42 → mEs S es → S.2 69 (d - 1) = oI o → S.2 70 (d - 1) = nI k → (∀ e, o = some e → k ≤ (gC es e).2.1.length) → qS S l → l.length + (frm es r k o).length ≤ 1000 → ∃ S' c, c ≤ frc es k o ∧ (∀ n, gl212_21 (n + c) x1 (nI d) S = gl212_21 n x1 (nI (d - 1)) S') ∧ qS S' (l ++ frm es r k o) ∧ flD S S' ∧ loS (d - 1) S S' := by
  have w1 := w.1
  intro r
  induction r with
  | zero =>
    intro o d k l S hr ho hd hdr H h69 h70 hk Q hl
    cases o with
    | some e => have := rk_pos (es := es) (e := e); omega
    | none =>
      refine ⟨S, 1, Nat.le_refl _, fun n => ?_, by rw [show frm es _ k none = [] from rfl, List.append_nil]; exact Q, df.rfl', fun i hi => ⟨rfl, rfl⟩⟩
      rw [gl212_21]
      dsimp only
      rw [if_neg (nI_nle (by omega) (by omega)), nI_s1 (by omega), ld_69 (by omega), h69, ld_70 (by omega), h70]
      simp only [bS]
      rw [if_pos oI_n]
      unfold gj212_60 gj212_183
      rw [nI_dec (by omega)]
  | succ r ihr =>
    intro o d k l S hr ho hd hdr H h69 h70 hk Q hl
    cases o with
    | none =>
      refine ⟨S, 1, Nat.le_refl _, fun n => ?_, by rw [show frm es _ k none = [] from rfl, List.append_nil]; exact Q, df.rfl', fun i hi => ⟨rfl, rfl⟩⟩
      rw [gl212_21]
      dsimp only
      rw [if_neg (nI_nle (by omega) (by omega)), nI_s1 (by omega), ld_69 (by omega), h69, ld_70 (by omega), h70]
      simp only [bS]
      rw [if_pos oI_n]
      unfold gj212_60 gj212_183
      rw [nI_dec (by omega)]
    | some e =>
      have he := ho e rfl
      obtain ⟨c1, _⟩ := gC_bd w he
      have hrk := rk_pos (es := es) (e := e)
      obtain ⟨hi1, hi2⟩ := inh_rk w he
      -- over the blocks that are left
      have key : ∀ m k (l : List (Nat × Nat)) (S : mS), k + m = (gC es e).2.1.length → mEs S es → S.2 69 (d - 1) = nI e → S.2 70 (d - 1) = nI k → qS S l → l.length + ((List.range' k m).flatMap (gX es (stI es (r + 1) (inh es e)) e)).length ≤ 1000 → ∃ S' c, c ≤ m + 1 + (((gC es e).2.1.drop k).filter fun b => bSo b == 7).length * (1 + 26 * (rk es (some e) - 1)) ∧ (∀ n, gl212_21 (n + c) x1 (nI d) S = gl212_21 n x1 (nI (d - 1)) S') ∧ qS S' (l ++ (List.range' k m).flatMap (gX es (stI es (r + 1) (inh es e)) e)) ∧ flD S S' ∧ loS (d - 1) S S' := by
        intro m
        induction m with
        | zero =>
          intro k l S hkm H h69 h70 Q _
          obtain ⟨e14, _⟩ := mEn_cm H w he
          refine ⟨S, 1, by omega, fun n => ?_, by simpa using Q, df.rfl', fun i hi => ⟨rfl, rfl⟩⟩
          rw [gl212_21]
          dsimp only
          rw [if_neg (nI_nle (by omega) (by omega)), nI_s1 (by omega), ld_69 (by omega), h69, ld_70 (by omega), h70]
          simp only [bS]
          rw [if_neg (nI_nm (by omega)), ld_14 (by omega), e14]
          simp only [bS]
          rw [if_pos (by rw [show k = (gC es e).2.1.length by omega])]
          unfold gj212_60 gj212_183
          rw [nI_dec (by omega)]
        | succ m ih =>
          intro k l S hkm H h69 h70 Q hl
          obtain ⟨e14, _, _, _, n3, _⟩ := mEn_cm H w he
          obtain ⟨b1, b2⟩ := n3 k (by omega)
          have b8 := b2.1
          rw [List.range'_succ, List.flatMap_cons, List.length_append] at hl
          rw [List.range'_succ, List.flatMap_cons]
          have edr : (gC es e).2.1.drop k = (gC es e).2.1.getD k bkD :: (gC es e).2.1.drop (k + 1) := by
            rw [List.drop_eq_getElem_cons (by omega)]
            congr 1
            simp [List.getD_eq_getElem?_getD, show k < (gC es e).2.1.length by omega]
          have estep : ∀ n, gl212_21 (n + 1) x1 (nI d) S = (if nI (bSo ((gC es e).2.1.getD k bkD)) = 7 then (g156 (nI e) (sSet S 70 (d - 1) (nI (k + 1)))).bind fun r_13 => (if r_13.1 = (-1) then gj212_127 (gl212_21 n) x1 (nI d) (nI e) (nI k) (nI (bSo ((gC es e).2.1.getD k bkD))) r_13.1 69 (nI d) (-1) r_13.2 else (g160 r_13.1 r_13.2).bind fun r_16 => gj212_127 (gl212_21 n) x1 (nI d) (nI e) (nI k) (nI (bSo ((gC es e).2.1.getD k bkD))) r_13.1 69 (nI d) r_16.1 r_16.2) else (if 1 < nI (bSo ((gC es e).2.1.getD k bkD)) then gl212_21 n x1 (nI d) (sSet S 70 (d - 1) (nI (k + 1))) else (sSt (sSet S 70 (d - 1) (nI (k + 1))) 66 ((sSet S 70 (d - 1) (nI (k + 1))).1 68) (nI e)).bind fun S_18 => (sSt S_18 67 (S_18.1 68) (nI (24 * e + k))).bind fun S_20 => gl212_21 n x1 (nI d) (sPut S_20 68 ((S_20.1 68) + 1)))) := fun n => by
            rw [gl212_21]
            dsimp only
            rw [if_neg (nI_nle (by omega) (by omega)), nI_s1 (by omega), ld_69 (by omega), h69, ld_70 (by omega), h70]
            simp only [bS]
            rw [if_neg (nI_nm (by omega)), ld_14 (by omega), e14]
            simp only [bS]
            rw [if_neg (nI_ne (show ¬ k = (gC es e).2.1.length by omega) (by omega) (by omega)), nI_1, st_70 (by omega)]
            simp only [bS]
            rw [lt_24, pk_mul, nI_add, ld_16 (by omega), sS_ne (by omega), b1.1]
            simp only [bS, gj212_183]
          have D1 : flD S (sSet S 70 (d - 1) (nI (k + 1))) := df.set (by decide)
          have L1 : loS (d - 1) S (sSet S 70 (d - 1) (nI (k + 1))) := fun i hi => ⟨by rw [sS_ne (by omega)], by rw [sS_ne (by omega)]⟩
          have H1 := mEs_fl D1 H w
          have Q1 : qS (sSet S 70 (d - 1) (nI (k + 1))) l := ⟨Q.1, fun i hi => by rw [sS_ne (by omega), sS_ne (by omega)]; exact Q.2 i hi⟩
          have f69 : (sSet S 70 (d - 1) (nI (k + 1))).2 69 (d - 1) = nI e := by rw [sS_ne (by omega)]; exact h69
          have f70 : (sSet S 70 (d - 1) (nI (k + 1))).2 70 (d - 1) = nI (k + 1) := sS_eq
          generalize sSet S 70 (d - 1) (nI (k + 1)) = S1 at D1 L1 H1 Q1 f69 f70 estep
          by_cases h7 : bSo ((gC es e).2.1.getD k bkD) = 7
          · -- {inherit}
            have egx : gX es (stI es (r + 1) (inh es e)) e k = stI es (r + 1) (inh es e) := by
              unfold gX
              rw [if_pos h7]
            rw [egx] at hl ⊢
            have e127 : ∀ n, gl212_21 (n + 1) x1 (nI d) S = gl212_21 n x1 (nI (d + 1)) (sSet (sSet S1 69 d (oI (inh es e))) 70 d 0) := fun n => by
              rw [estep n, if_pos (show nI (bSo ((gC es e).2.1.getD k bkD)) = 7 by rw [h7]; rfl), g156_s H1 w he]
              simp only [bS]
              unfold inh
              cases hu : abv es e with
              | none =>
                rw [if_pos oI_n]
                unfold gj212_127 gj212_183
                rw [sSt_n (k := 69) (N := 42) (by omega) (by decide)]
                simp only [bS]
                rw [st_70 (by omega)]
                simp only [bS, nI_1]
                rfl
              | some u =>
                have hu2 := (abv_lt w he hu).1
                have ga := g160_o H1 w (o := some u) (fun x hx => by cases hx; exact hu2)
                rw [if_neg (show ¬ oI (some u) = -1 from nI_nm (by omega)), ga]
                simp only [bS]
                unfold gj212_127 gj212_183
                rw [sSt_n (k := 69) (N := 42) (by omega) (by decide)]
                simp only [bS]
                rw [st_70 (by omega)]
                simp only [bS, nI_1]
            have D2 : flD S (sSet (sSet S1 69 d (oI (inh es e))) 70 d 0) := D1.tr ((df.set (by decide)).tr (df.set (by decide)))
            have Q2 : qS (sSet (sSet S1 69 d (oI (inh es e))) 70 d 0) l := ⟨Q1.1, fun i hi => by rw [sS_ne (by omega), sS_ne (by omega), sS_ne (by omega), sS_ne (by omega)]; exact Q1.2 i hi⟩
            have L2 : loS d S1 (sSet (sSet S1 69 d (oI (inh es e))) 70 d 0) := fun i hi => ⟨by rw [sS_ne (by omega), sS_ne (by omega)], by rw [sS_ne (by omega), sS_ne (by omega)]⟩
            have i69 : (sSet (sSet S1 69 d (oI (inh es e))) 70 d 0).2 69 (d + 1 - 1) = oI (inh es e) := by
              rw [Nat.add_sub_cancel, sS_ne (by omega), sS_eq]
            have i70 : (sSet (sSet S1 69 d (oI (inh es e))) 70 d 0).2 70 (d + 1 - 1) = nI 0 := by
              rw [Nat.add_sub_cancel, sS_eq]
              rfl
            have H2 := mEs_fl D2 H w
            generalize sSet (sSet S1 69 d (oI (inh es e))) 70 d 0 = S2 at e127 D2 Q2 L2 i69 i70 H2
            have est := stI_f (es := es) r (inh es e)
            have hll : l.length + (frm es r 0 (inh es e)).length ≤ 1000 := by rw [← est]; omega
            obtain ⟨S3, c, q1, q2, q3, q4, q5⟩ := ihr (inh es e) (d + 1) 0 l S2 (by omega) (fun x hx => (hi2 x hx).1) (by omega) (by omega) H2 i69 i70 (fun x hx => Nat.zero_le _) Q2 hll
            rw [Nat.add_sub_cancel] at q2 q5
            have hc : c ≤ 1 + 26 * (rk es (some e) - 1) := by
              cases hin : inh es e with
              | none =>
                rw [hin] at q1
                have q1 : c ≤ 1 := q1
                omega
              | some x =>
                rw [hin] at q1 hi1
                have q1 : c ≤ ((gC es x).2.1.length - 0) + 1 + (((gC es x).2.1.drop 0).filter fun b => bSo b == 7).length * (1 + 26 * (rk es (some x) - 1)) := q1
                obtain ⟨g1, _, _, _, g5, _⟩ := gC_bd w ((hi2 x hin).1)
                rw [List.drop_zero] at q1
                have h9 := Nat.mul_le_mul_right (1 + 26 * (rk es (some x) - 1)) g5
                have hx := rk_pos (es := es) (e := x)
                omega
            have q3' : qS S3 (l ++ stI es (r + 1) (inh es e)) := by
              rw [est]
              exact q3
            have j69 : S3.2 69 (d - 1) = nI e := by rw [(q5 (d - 1) (by omega)).1, (L2 (d - 1) (by omega)).1]; exact f69
            have j70 : S3.2 70 (d - 1) = nI (k + 1) := by rw [(q5 (d - 1) (by omega)).2, (L2 (d - 1) (by omega)).2]; exact f70
            have D3 : flD S S3 := D2.tr q4
            obtain ⟨S4, c2, p1, p2, p3, p4, p5⟩ := ih (k + 1) _ S3 (by omega) (mEs_fl D3 H w) j69 j70 q3' (by rw [List.length_append]; omega)
            refine ⟨S4, c2 + c + 1, ?_, fun n => ?_, by rw [← List.append_assoc]; exact p3, D3.tr p4, ?_⟩
            · rw [edr, List.filter_cons, if_pos (by simp only [h7]; rfl), List.length_cons, Nat.add_mul, Nat.one_mul]
              omega
            · rw [← Nat.add_assoc, e127, ← Nat.add_assoc, q2]
              exact p2 n
            · refine (L1.tr ?_).tr p5
              intro i hi
              exact ⟨(q5 i (by omega)).1.trans (L2 i (by omega)).1, (q5 i (by omega)).2.trans (L2 i (by omega)).2⟩
          · have efl : (((gC es e).2.1.drop k).filter fun b => bSo b == 7) = (((gC es e).2.1.drop (k + 1)).filter fun b => bSo b == 7) := by
              rw [edr, List.filter_cons, if_neg (by simpa using h7)]
            rw [efl]
            by_cases htg : 1 < bSo ((gC es e).2.1.getD k bkD)
            · have egx : gX es (stI es (r + 1) (inh es e)) e k = [] := by
                unfold gX
                rw [if_neg h7, if_pos (isTg_iff.mpr (by omega))]
              rw [egx] at hl ⊢
              rw [List.nil_append]
              obtain ⟨S4, c2, p1, p2, p3, p4, p5⟩ := ih (k + 1) l S1 (by omega) H1 f69 f70 Q1 (by simpa using hl)
              refine ⟨S4, c2 + 1, by omega, fun n => ?_, p3, D1.tr p4, L1.tr p5⟩
              rw [← Nat.add_assoc, estep, if_neg (show ¬ _ = (7 : Int32) from nI_ne h7 (by omega) (by decide)), if_pos (show (1 : Int32) < _ from nI_lt (a := 1) htg (by omega))]
              exact p2 n
            · have egx : gX es (stI es (r + 1) (inh es e)) e k = [(e, k)] := by
                unfold gX
                rw [if_neg h7, if_neg (fun h9 => by have := isTg_iff.mp h9; omega)]
              rw [egx] at hl ⊢
              rw [List.length_singleton] at hl
              have eadd : ∀ n, gl212_21 (n + 1) x1 (nI d) S = gl212_21 n x1 (nI d) (sPut (sSet (sSet S1 66 l.length (nI e)) 67 l.length (nI (24 * e + k))) 68 (nI (l.length + 1))) := fun n => by
                rw [estep, if_neg (show ¬ _ = (7 : Int32) from nI_ne h7 (by omega) (by decide)), if_neg (show ¬ (1 : Int32) < _ from nI_nlt (a := 1) (by omega) (by decide)), Q1.1, st_66 (by omega)]
                simp only [bS]
                rw [show (sSet S1 66 l.length (nI e)).1 68 = nI l.length from Q1.1, st_67 (by omega)]
                simp only [bS]
                rw [show (sSet (sSet S1 66 l.length (nI e)) 67 l.length (nI (24 * e + k))).1 68 = nI l.length from Q1.1, nI_1]
              have D2 : flD S (sPut (sSet (sSet S1 66 l.length (nI e)) 67 l.length (nI (24 * e + k))) 68 (nI (l.length + 1))) := D1.tr (((df.set (by decide)).tr (df.set (by decide))).tr (df.put (by decide)))
              have Q2 : qS (sPut (sSet (sSet S1 66 l.length (nI e)) 67 l.length (nI (24 * e + k))) 68 (nI (l.length + 1))) (l ++ [(e, k)]) := by
                refine ⟨by simp; rfl, fun i hi => ?_⟩
                simp only [List.length_append, List.length_singleton] at hi
                rw [gD_app hi]
                simp only [sP_2]
                by_cases h5 : i = l.length
                · rw [if_pos h5, h5, sS_ne (by omega), sS_eq, sS_eq]
                  exact ⟨rfl, rfl⟩
                · rw [if_neg h5]
                  simp (disch := omega) only [sS_ne]
                  exact Q1.2 i (by omega)
              have L2 : loS (d - 1) S1 (sPut (sSet (sSet S1 66 l.length (nI e)) 67 l.length (nI (24 * e + k))) 68 (nI (l.length + 1))) := fun i hi => ⟨by simp (disch := omega) only [sP_2, sS_ne], by simp (disch := omega) only [sP_2, sS_ne]⟩
              have k69 : (sPut (sSet (sSet S1 66 l.length (nI e)) 67 l.length (nI (24 * e + k))) 68 (nI (l.length + 1))).2 69 (d - 1) = nI e := by simp (disch := omega) only [sP_2, sS_ne]; exact f69
              have k70 : (sPut (sSet (sSet S1 66 l.length (nI e)) 67 l.length (nI (24 * e + k))) 68 (nI (l.length + 1))).2 70 (d - 1) = nI (k + 1) := by simp (disch := omega) only [sP_2, sS_ne]; exact f70
              obtain ⟨S4, c2, p1, p2, p3, p4, p5⟩ := ih (k + 1) _ _ (by omega) (mEs_fl D2 H w) k69 k70 Q2 (by rw [List.length_append, List.length_singleton]; omega)
              refine ⟨S4, c2 + 1, by omega, fun n => ?_, by rw [← List.append_assoc]; exact p3, D2.tr p4, (L1.tr L2).tr p5⟩
              rw [← Nat.add_assoc, eadd]
              exact p2 n
      exact key ((gC es e).2.1.length - k) k l S (by have := hk e rfl; omega) H h69 h70 Q hl
/-- flatten -/
theorem g212_s (H : mEs S es) (w : wE es) {o : Option Nat} (ho : ∀ e, o = some e → e < es.length) : ∃ S', g212 (oI o) S = some S' ∧ qS S' (stI es 41 o) ∧ flD S S' := by
  have w1 := w.1
  have hr := rk_le w ho
  unfold g212
  simp only [bS]
  rw [show (0 : Int32) = nI 0 from rfl, sSt_n (k := 69) (N := 42) (by decide) (by decide)]
  simp only [bS]
  rw [st_70 (by decide)]
  simp only [bS]
  have D0 : flD S (sSet (sSet (sPut S 68 (nI 0)) 69 0 (oI o)) 70 0 (nI 0)) := ((df.put (by decide)).tr (df.set (by decide))).tr (df.set (by decide))
  have hlen := stI_len w (40 + 1) o ho
  have est := stI_f (es := es) 40 o
  obtain ⟨T, c, q1, q2, q3, q4, _⟩ := g212_f w (oI o) 40 o 1 0 [] (sSet (sSet (sPut S 68 (nI 0)) 69 0 (oI o)) 70 0 (nI 0)) hr ho (Nat.le_refl _) (by omega) (mEs_fl D0 H w) (by rw [sS_ne (by omega), sS_eq]) sS_eq (fun _ _ => Nat.zero_le _) ⟨rfl, fun i hi => absurd hi (Nat.not_lt_zero _)⟩ (by
    rw [← est, List.length_nil]
    omega)
  have hc : c ≤ 2000 := by
    cases o with
    | none =>
      have q1 : c ≤ 1 := q1
      omega
    | some x =>
      have q1 : c ≤ ((gC es x).2.1.length - 0) + 1 + (((gC es x).2.1.drop 0).filter fun b => bSo b == 7).length * (1 + 26 * (rk es (some x) - 1)) := q1
      obtain ⟨g1, _, _, _, g5, _⟩ := gC_bd w (ho x rfl)
      rw [List.drop_zero] at q1
      have h9 := Nat.mul_le_mul_right (1 + 26 * (rk es (some x) - 1)) g5
      omega
  have e1 := q2 (xFuel - c)
  rw [show xFuel - c + c = xFuel from Nat.sub_add_cancel (by unfold xFuel; omega)] at e1
  rw [show (1 : Int32) = nI 1 from rfl, e1]
  obtain ⟨m, hm⟩ : ∃ m, xFuel - c = m + 1 := ⟨xFuel - c - 1, by unfold xFuel; omega⟩
  rw [hm, gl212_21]
  dsimp only
  rw [if_pos (show nI (1 - 1) ≤ 0 by decide)]
  refine ⟨T, rfl, ?_, D0.tr q4⟩
  rw [est]
  rw [List.nil_append] at q3
  exact q3
end PMFL
