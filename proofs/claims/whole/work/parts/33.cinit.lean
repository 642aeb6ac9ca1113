section XCINIT
variable {h : xH} {t : Nat}
/-- cells up to h.1 but t are as they were; c more cells, s more slots -/
def FN (t c s : Nat) (h h' : xH) : Prop := h'.1 = h.1 + c ∧ h'.2.1 = h.2.1 + s ∧ ∀ a, a < h.1 → a ≠ t → h'.2.2 a = h.2.2 a
theorem xmax_0 (n : Nat) (hn : n < 2 ^ 31) : xmax 0 (nI n) = nI n := by
  unfold xmax
  by_cases h1 : (0 : Int32) < nI n
  · rw [if_pos h1]
  · rw [if_neg h1]
    have h2 : n = 0 := by
      rcases Nat.eq_zero_or_pos n with h9 | h9
      · exact h9
      · exact absurd (nI_lt (a := 0) h9 hn) h1
    subst h2
    rfl
theorem fn95_spec (ht : t < h.1) (hc : h.2.2 t = (9, [.null, .int 0])) (n : Nat) (hn : n * 8 ≤ 536870912) : ∃ h', fn95 (some t) (nI n) h = some h' ∧ TextAt h' t h.1 n [] ∧ FN t 1 n h h' := by
  have hc2 : (xnew h (12, List.replicate n (.int 0))).2.2 t = (9, [.null, .int 0]) := by rw [xnew_ne (by omega)]; exact hc
  refine ⟨xset (xnew h (12, List.replicate n (.int 0))) t (9, [.ref h.1, .int 0]), ?_, ⟨show t < h.1 + 1 by omega, show h.1 < h.1 + 1 by omega, by omega, ?_, by omega, by simp, by simp, List.replicate n (.int 0), ?_, by simp, fun i hi => by simp at hi⟩, rfl, ?_, fun a h1 h2 => ?_⟩
  · unfold fn95
    refine x_bS (x := t) rfl ?_
    rw [xmax_0 n (by omega)]
    refine x_bS (xnA_of hn) ?_
    refine x_bS (xpF_of hc2 (show t < h.1 + 1 by omega) (by omega) (by simp) (show xfit (.array .byte) (.ref h.1) = true from rfl)) ?_
    rfl
  · rw [xset_at]
    rfl
  · rw [xset_ne (by omega), xnew_at]
  · show h.2.1 + (List.replicate n (Value.int 0)).length = _
    rw [List.length_replicate]
  · rw [xset_ne h2, xnew_ne (by omega)]
end XCINIT
