def xMon (h : xH) : xOut → Prop
  | .inl q => h.1 ≤ q.2.2.2.1 ∧ h.2.1 ≤ q.2.2.2.2.1
  | .inr (.inl (_, _, q)) => q.2.2.2 = h
  | .inr (.inr z) => z.2 = h
set_option maxHeartbeats 4000000 in
theorem xDo_mono {T : xT} {mi : Nat} {ins : Jvm.ClassFile.Instr} {len pc : Nat} {L st : List Value} {h : xH} {o : xOut} (hs : xDo T mi ins len pc L st h = some o) : xMon h o := by
  have key : ∀ q : xCfg, q.2.2.2 = h → xMon h (.inl q) := fun q e => by simp [xMon, e]
  have keyS : ∀ (pc : Nat) (L st : List Value) (a : Nat) (c : Nat × List Value), xMon h (.inl (pc, L, st, xset h a c)) := fun _ _ _ _ _ => ⟨Nat.le_refl _, Nat.le_refl _⟩
  have keyN : ∀ (pc : Nat) (L st : List Value) (c : Nat × List Value), xMon h (.inl (pc, L, st, xnew h c)) := fun _ _ _ _ => ⟨Nat.le_succ _, Nat.le_add_right _ _⟩
  unfold xDo at hs
  split at hs <;> (try (split at hs)) <;> (try (cases hs; done)) <;>
    simp only [xpush, xpush?, xload, xstore, xinc, xbin, xdiv, xi2b, xi2c, xldc, xgst, xtld, xcallT, xl2i, xlong, xlshr, xdup, xdup2, xpop, xif, xicmp, xacmp, xnul, xto, xtsw, xlsw, xget, xput, xmk, xmka, xlen, xsload, xaload, xiast, xbast, xaast, xvirt, xspec, xstat, xcallI, xcallS, xobj, xmath, xret, xaret, xvret, xbr] at hs <;>
    (repeat' split at hs) <;> (first | (cases hs; done) | (cases hs; exact key _ rfl) | (cases hs; exact keyS _ _ _ _ _) | (cases hs; exact keyN _ _ _ _) | (cases hs; exact rfl) | skip)
