theorem xPure_of {xs : List Int32} {h' : xH} (h : fn234 xs xh0 = some (1, h')) (h1 : h'.1 ≤ 600000) (h2 : h'.2.1 ≤ 7302250) : xPure xs := by
  have hc := fn234_call (xs := xs) (d := 100) (by omega) h
  obtain ⟨m, hM, hf, n, hr⟩ := hc
  have hm : m = (⟨"DocFormatLaw", "law", "([I)Z"⟩, code, 4, some .boolean, 1) := Option.some.inj (hM.symm.trans m234)
  subst hm
  exact ⟨99, n, _, by omega, hr, rfl, h1, h2⟩
