theorem xc_i (x : Int32) : (Value.int x).category = 1 := rfl
theorem xc_j (x : Int64) : (Value.long x).category = 2 := rfl
theorem xc_a (k : Nat) : (Value.retAddr k).category = 1 := rfl
theorem xc_f (x : UInt32) : (Value.float x).category = 1 := rfl
def xush (x y : Int32) : Int32 := (x.toUInt32 >>> (y.toUInt32 &&& Int32.toUInt32 31)).toInt32
def xrem (x y : Int32) : Int32 := x - x / y * y
def xmax (x y : Int32) : Int32 := if x < y then y else x
def xmin (x y : Int32) : Int32 := if y < x then y else x
section XMM
variable {T : xT} {d mi pc idx ci mj : Nat} {L st : List Value} {h : xH} {r : xR} {x y : Int32}
theorem sh_max (hi : xtI T mi pc = some (.invokestatic idx, 3)) (hV : xtV T mi idx = some (7, mj, ci)) (hct : xcat st ≤ 8) (kk : xEv T d mi (pc + 3, L, .int (xmax x y) :: st, h) r) : xEv T d mi (pc, L, .int y :: .int x :: st, h) r := ev_max hi hV (Or.inl rfl) hct kk
theorem sh_min (hi : xtI T mi pc = some (.invokestatic idx, 3)) (hV : xtV T mi idx = some (8, mj, ci)) (hct : xcat st ≤ 8) (kk : xEv T d mi (pc + 3, L, .int (xmin x y) :: st, h) r) : xEv T d mi (pc, L, .int y :: .int x :: st, h) r := ev_max hi hV (Or.inr rfl) hct kk
theorem sh_goto {off : Int} {t : Nat} (hi : xtI T mi pc = some (.goto off, 3)) (ht : xgo pc off = some t) (kk : xEv T d mi (t, L, st, h) r) : xEv T d mi (pc, L, st, h) r := by
  refine ev_do hi (q' := (t, L, st, h)) ?_ kk
  show (if 3 = 3 then xto pc off L st h else none) = _
  rw [if_pos rfl]
  unfold xto
  rw [ht]
theorem sh_tswC {dv lo hi' c off : Int} {os : Array Int} {len t : Nat} (hi : xtI T mi pc = some (.tableswitch dv lo hi' os, len)) (hx : x.toInt = c) (h1 : ¬ c < lo) (h2 : ¬ hi' < c) (ho : os[(c - lo).toNat]? = some off) (ht : xgo pc off = some t) (kk : xEv T d mi (t, L, st, h) r) : xEv T d mi (pc, L, .int x :: st, h) r := by
  refine ev_do hi (q' := (t, L, st, h)) ?_ kk
  show xtsw dv lo hi' os pc L (.int x :: st) h = _
  unfold xtsw
  dsimp only
  rw [hx, if_neg (by omega), ho]
  dsimp only
  unfold xto
  rw [ht]
theorem sh_tswD {dv lo hi' : Int} {os : Array Int} {len t : Nat} (hi : xtI T mi pc = some (.tableswitch dv lo hi' os, len)) (hout : x.toInt < lo ∨ hi' < x.toInt) (ht : xgo pc dv = some t) (kk : xEv T d mi (t, L, st, h) r) : xEv T d mi (pc, L, .int x :: st, h) r := by
  refine ev_do hi (q' := (t, L, st, h)) ?_ kk
  show xtsw dv lo hi' os pc L (.int x :: st) h = _
  unfold xtsw
  dsimp only
  rw [if_pos hout]
  unfold xto
  rw [ht]
theorem sh_cnull (hi : xtI T mi pc = some (.aconst_null, 1)) (kk : xEv T d mi (pc + 1, L, xrv none :: st, h) r) : xEv T d mi (pc, L, st, h) r := ev_do hi rfl kk
theorem call_of2 {as fl Ls : List Value} {mt : xMt} (hM : xtM T mi = some mt) (hfl : xfl as = fl) (hn : fl.length ≤ mt.2.2.1) (hL : fl ++ List.replicate (mt.2.2.1 - fl.length) (.float 0) = Ls) (kk : xEv T d mi (0, Ls, [], h) r) : xCall T (d + 1) mi as h r := by
  subst hfl
  subst hL
  exact call_of hM hn kk
end XMM
section XTEXT
variable {xs : List Int32} {d mi pc idx ci k : Nat} {L st : List Value} {h : xH} {r : xR} {x i : Int32}
theorem xt_small : ∀ n, n < 10 → (Int32.ofNat n).toInt = (n : Int) := by decide
theorem xt_lens : ∀ k, k < 9 → (xQ0.getD k []).length < 10 ∧ Int32.ofNat (xQ0.getD k []).length >>> ((0 : Int32) &&& 31) = Int32.ofNat (xQ0.getD k []).length := by decide
theorem xt_chars : ∀ k, k < 9 → ∀ n, n < 10 → (((xQ0.getD k []).getD n 0 &&& 255).toUInt32 % 65536).toInt32 = (xQ0.getD k []).getD n 0 ∧ narrow .char (.int ((xQ0.getD k []).getD n 0)) = .int ((xQ0.getD k []).getD n 0) := by decide
theorem t_coder (hd : 1 ≤ d) (hk : k < 9) : xCall (xTa xs) d 229 [.retAddr (k + 1)] h (some (.int 0), h) := by
  obtain ⟨d, rfl⟩ : ∃ d2, d = d2 + 1 := ⟨d - 1, by omega⟩
  refine call_of2 (fl := [.retAddr (k + 1)]) (Ls := [.retAddr (k + 1)]) m229 (by simp [xfl, xc_a]) (Nat.le_of_ble_eq_true rfl) rfl ?_
  refine ev_gst i229_0 f229_38 (by decide) ?_
  refine ev_if (x := 1) (t := 13) i229_3 rfl (fun c => absurd (show (1 : Int32) = 0 from c) (by decide)) (fun _ => ?_)
  refine ev_do i229_6 rfl ?_
  refine ev_tget i229_7 f229_15 hk (by decide) ?_
  refine sh_goto (t := 14) i229_10 rfl ?_
  exact sh_iret (x := 0) i229_14 m229 rfl rfl
theorem t_latin (hd : 1 ≤ d) (hk : k < 9) : xCall (xTa xs) d 230 [.retAddr (k + 1)] h (some (.int 1), h) := by
  obtain ⟨d, rfl⟩ : ∃ d2, d = d2 + 1 := ⟨d - 1, by omega⟩
  refine call_of2 (fl := [.retAddr (k + 1)]) (Ls := [.retAddr (k + 1)]) m230 (by simp [xfl, xc_a]) (Nat.le_of_ble_eq_true rfl) rfl ?_
  refine ev_gst i230_0 f230_38 (by decide) ?_
  refine ev_if (x := 1) (t := 17) i230_3 rfl (fun c => absurd (show (1 : Int32) = 0 from c) (by decide)) (fun _ => ?_)
  refine ev_do i230_6 rfl ?_
  refine ev_tget i230_7 f230_15 hk (by decide) ?_
  refine ev_if (x := 0) (t := 17) i230_10 rfl (fun c => absurd rfl (show ¬ (0 : Int32) = 0 from c)) (fun _ => ?_)
  refine ev_do i230_13 rfl ?_
  refine sh_goto (t := 18) i230_14 rfl ?_
  exact sh_iret i230_18 m230 rfl rfl
theorem t_length (hd : 2 ≤ d) (hk : k < 9) : xCall (xTa xs) d 227 [.retAddr (k + 1)] h (some (.int (Int32.ofNat (xQ0.getD k []).length)), h) := by
  obtain ⟨d, rfl⟩ : ∃ d2, d = d2 + 1 := ⟨d - 1, by omega⟩
  refine call_of2 (fl := [.retAddr (k + 1)]) (Ls := [.retAddr (k + 1)]) m227 (by simp [xfl, xc_a]) (Nat.le_of_ble_eq_true rfl) rfl ?_
  refine ev_do i227_0 rfl ?_
  refine ev_tget i227_1 f227_9 hk (by decide) ?_
  refine ev_tlen (j := k) i227_4 hk ?_
  refine ev_do i227_5 rfl ?_
  refine ev_invT (as := []) (j := k) i227_6 v227_335 m229 rfl (Nat.le_of_ble_eq_true rfl) hk (t_coder (by omega) hk) ?_
  refine ev_do i227_9 rfl ?_
  have e1 := (xt_lens k hk).2
  show xEv (xTa xs) d 227 (10, _, [.int (Int32.ofNat (xQ0.getD k []).length >>> ((0 : Int32) &&& 31))], h) _
  rw [e1]
  exact sh_iret i227_10 m227 rfl rfl
theorem t_check3 (hd : 1 ≤ d) {n : Int32} (h1 : ¬ i < 0) (h2 : i < n) : xCall (xTa xs) d 233 [.int i, .int n, .retAddr 201] h (some (.int i), h) := by
  obtain ⟨d, rfl⟩ : ∃ d2, d = d2 + 1 := ⟨d - 1, by omega⟩
  refine call_of2 (fl := [.int i, .int n, .retAddr 201]) (Ls := [.int i, .int n, .retAddr 201]) m233 (by simp [xfl, xc_a, xc_i]) (Nat.le_of_ble_eq_true rfl) rfl ?_
  refine ev_do i233_0 rfl ?_
  refine ev_if (t := 9) i233_1 rfl (fun c => absurd c h1) (fun _ => ?_)
  refine ev_do i233_4 rfl ?_
  refine ev_do i233_5 rfl ?_
  refine ev_icmp (t := 16) i233_6 rfl (fun _ => ?_) (fun c => absurd h2 c)
  refine ev_do i233_16 rfl ?_
  exact sh_iret i233_17 m233 rfl rfl
theorem t_check0 (hd : 2 ≤ d) {n : Int32} (h1 : ¬ i < 0) (h2 : i < n) : xCall (xTa xs) d 231 [.int i, .int n] h (none, h) := by
  obtain ⟨d, rfl⟩ : ∃ d2, d = d2 + 1 := ⟨d - 1, by omega⟩
  refine call_of2 (fl := [.int i, .int n]) (Ls := [.int i, .int n]) m231 (by simp [xfl, xc_a, xc_i]) (Nat.le_of_ble_eq_true rfl) rfl ?_
  refine ev_do i231_0 rfl ?_
  refine ev_do i231_1 rfl ?_
  refine ev_gst i231_2 f231_1053 (by decide) ?_
  refine ev_sta (as := [.retAddr 201, .int n, .int i]) i231_5 v231_1059 (Or.inl rfl) m233 rfl (Nat.le_of_ble_eq_true rfl) (t_check3 (by omega) h1 h2) ?_
  refine sh_pop i231_8 rfl ?_
  exact sh_vret i231_9 m231 rfl
theorem t_char1 (hd : 3 ≤ d) (hk : k < 9) (hin : xout i (xQ0.getD k []).length = false) : xCall (xTa xs) d 232 [.retAddr (k + 101), .int i] h (some (.int ((xQ0.getD k []).getD i.toNatClampNeg 0)), h) := by
  obtain ⟨d, rfl⟩ : ∃ d2, d = d2 + 1 := ⟨d - 1, by omega⟩
  have hlen := (xt_lens k hk).1
  have hin2 := hin
  unfold xout at hin2
  have hin3 := of_decide_eq_false hin2
  have h1 : ¬ i < 0 := fun h9 => hin3 (Or.inl h9)
  have h2 : i.toNatClampNeg < (xQ0.getD k []).length := Nat.not_le.mp fun h9 => hin3 (Or.inr h9)
  have h3 : i < Int32.ofNat (xQ0.getD k []).length := by
    rw [Int32.lt_iff_toInt_lt, xt_small _ hlen]
    have h4 : i.toInt.toNat < (xQ0.getD k []).length := h2
    omega
  obtain ⟨c1, c2⟩ := xt_chars k hk i.toNatClampNeg (by omega)
  refine call_of2 (fl := [.retAddr (k + 101), .int i]) (Ls := [.retAddr (k + 101), .int i]) m232 (by simp [xfl, xc_a, xc_i]) (Nat.le_of_ble_eq_true rfl) rfl ?_
  refine ev_do i232_0 rfl ?_
  refine ev_do i232_1 rfl ?_
  refine ev_tlen (j := k) i232_2 hk ?_
  refine ev_sta (as := [.int (Int32.ofNat (xQ0.getD k []).length), .int i]) i232_3 v232_9 (Or.inl rfl) m231 rfl (Nat.le_of_ble_eq_true rfl) (t_check0 (by omega) h1 h3) ?_
  refine ev_do i232_6 rfl ?_
  refine ev_do i232_7 rfl ?_
  refine ev_tld (j := k) i232_8 hk hin ?_
  refine ev_do i232_9 rfl ?_
  refine ev_do i232_12 rfl ?_
  refine ev_do i232_13 rfl ?_
  show xEv (xTa xs) d 232 (14, _, [.int (((xQ0.getD k []).getD i.toNatClampNeg 0 &&& 255).toUInt32 % 65536).toInt32], h) _
  rw [c1]
  exact sh_iret i232_14 m232 rfl c2
theorem t_char (hd : 4 ≤ d) (hk : k < 9) (hin : xout i (xQ0.getD k []).length = false) : xCall (xTa xs) d 228 [.retAddr (k + 1), .int i] h (some (.int ((xQ0.getD k []).getD i.toNatClampNeg 0)), h) := by
  obtain ⟨d, rfl⟩ : ∃ d2, d = d2 + 1 := ⟨d - 1, by omega⟩
  have hlen := (xt_lens k hk).1
  have hin2 := hin
  unfold xout at hin2
  have hin3 := of_decide_eq_false hin2
  have h2 : i.toNatClampNeg < (xQ0.getD k []).length := Nat.not_le.mp fun h9 => hin3 (Or.inr h9)
  obtain ⟨c1, c2⟩ := xt_chars k hk i.toNatClampNeg (by omega)
  refine call_of2 (fl := [.retAddr (k + 1), .int i]) (Ls := [.retAddr (k + 1), .int i]) m228 (by simp [xfl, xc_a, xc_i]) (Nat.le_of_ble_eq_true rfl) rfl ?_
  refine ev_do i228_0 rfl ?_
  refine ev_invT (as := []) (j := k) i228_1 v228_492 m230 rfl (Nat.le_of_ble_eq_true rfl) hk (t_latin (by omega) hk) ?_
  refine ev_if (x := 1) (t := 16) i228_4 rfl (fun c => absurd (show (1 : Int32) = 0 from c) (by decide)) (fun _ => ?_)
  refine ev_do i228_7 rfl ?_
  refine ev_tget i228_8 f228_9 hk (by decide) ?_
  refine ev_do i228_11 rfl ?_
  refine ev_sta (as := [.int i, .retAddr (k + 101)]) i228_12 v228_495 (Or.inl rfl) m232 rfl (Nat.le_of_ble_eq_true rfl) (t_char1 (by omega) hk hin) ?_
  exact sh_iret i228_15 m228 rfl c2
theorem sh_tlen (hi : xtI (xTa xs) mi pc = some (.invokevirtual idx, 3)) (hV : xtV (xTa xs) mi idx = some (9, 227, ci)) (hct : xcat st ≤ 8) (hd : 2 ≤ d) (e : xqL k = some x) (kk : xEv (xTa xs) d mi (pc + 3, L, .int x :: st, h) r) : xEv (xTa xs) d mi (pc, L, .retAddr (k + 1) :: st, h) r := by
  unfold xqL at e
  split at e
  · rename_i hk
    cases e
    exact ev_invT (as := []) (j := k) hi hV m227 rfl hct hk (t_length hd hk) kk
  · cases e
theorem sh_tchr (hi : xtI (xTa xs) mi pc = some (.invokevirtual idx, 3)) (hV : xtV (xTa xs) mi idx = some (9, 228, ci)) (hct : xcat st ≤ 8) (hd : 4 ≤ d) (e : xqC k i = some x) (kk : xEv (xTa xs) d mi (pc + 3, L, .int x :: st, h) r) : xEv (xTa xs) d mi (pc, L, .int i :: .retAddr (k + 1) :: st, h) r := by
  unfold xqC at e
  split at e
  · rename_i hk
    cases e
    exact ev_invT (as := [.int i]) (j := k) hi hV m228 rfl hct hk.1 (t_char hd hk.1 hk.2) kk
  · cases e
end XTEXT
