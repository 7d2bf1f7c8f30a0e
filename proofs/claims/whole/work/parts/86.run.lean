/-! the law's run from the start heap -/
theorem law_run : ∀ n xs, n ≤ 320 → ∃ h', ab_F cdT mxT law_ix [.ref 0] (ab_h0 n xs) = some (some (.int 1), h') ∧ h'.1 ≤ 3000 := fun n xs h => law_run0 n xs h
