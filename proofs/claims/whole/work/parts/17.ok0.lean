def xTs : List Cond := lw_tbl.filter goodWord
def xnest : Cond → Bool
  | .fieldLinkNest _ _ _ _ _ _ => true
  | .methodLinkNest _ _ _ _ => true
  | _ => false
def xNs : List Cond := lw_tbl.filter xnest
def xAO : List String := [RX0, RX2, RX6, RX9]
def xpc (n : Nat) : List Cond := match n with
  | 0 => k2_sels lw_privs
  | 1 => tables_1_1
  | 2 => tables_1_2
  | 3 => tables_1_3
  | 4 => tables_1_4
  | 5 => tables_1_5
  | 6 => tables_1_6
  | _ => tables_1_7
theorem xpc_in {n : Nat} {w : Cond} (h : w ∈ xpc n) : w ∈ lw_tbl := by
  unfold lw_tbl tables_1
  simp only [List.mem_append]
  unfold xpc at h
  split at h <;> simp [h]
def xw (k : Nat) : Option Cond := (xpc (k / 10000))[k % 10000]?
theorem xw_in {k : Nat} {w : Cond} (h : xw k = some w) : w ∈ lw_tbl := xpc_in (List.mem_of_getElem? h)
theorem xTs_mem {w : Cond} {k : Nat} (h : xw k = some w) (hg : goodWord w = true) : w ∈ xTs := List.mem_filter.mpr ⟨xw_in h, hg⟩
theorem xTs_of {w : Cond} (h : (decide (w ∈ lw_tbl) && goodWord w) = true) : w ∈ xTs := by
  rw [Bool.and_eq_true] at h
  exact List.mem_filter.mpr ⟨of_decide_eq_true h.1, h.2⟩
theorem xNs_mem {w : Cond} {k : Nat} (h : xw k = some w) (hg : xnest w = true) : w ∈ xNs := List.mem_filter.mpr ⟨xw_in h, hg⟩
theorem xNs_ok : xOKn xNs := by
  intro w hw
  have h := (List.mem_filter.mp hw).2
  cases w <;> first | exact Or.inl ⟨_, _, _, _, _, _, rfl⟩ | exact Or.inr ⟨_, _, _, _, rfl⟩ | exact absurd h (by simp [xnest])
/-- the word at a place, and a good one -/
def xat (k : Nat) (w : Cond) : Bool := decide (xw k = some w) && goodWord w
def xatn (k : Nat) (w : Cond) : Bool := decide (xw k = some w) && xnest w
theorem xat_mem {k : Nat} {w : Cond} (h : xat k w = true) : w ∈ xTs := by
  unfold xat at h
  rw [Bool.and_eq_true] at h
  exact xTs_mem (of_decide_eq_true h.1) h.2
theorem xatn_mem {k : Nat} {w : Cond} (h : xatn k w = true) : w ∈ xNs := by
  unfold xatn at h
  rw [Bool.and_eq_true] at h
  exact xNs_mem (of_decide_eq_true h.1) h.2
def xown (key : Nat) : String := xN0.getD (key / 2000 % 100) ""
