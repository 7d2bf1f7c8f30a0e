/-! Tying: copying k of n -/
theorem acp_in {T : Type} {h : ab_H} {a d n k : Nat} {f g : Nat → Int32} (e1 : ab_get h a = some (.inl (0, n, f))) (e2 : ab_get h d = some (.inl (0, n, g))) (hk : k ≤ n) (hn : n < 2 ^ 31) (K : ab_H → Option T) : ab_acp h a 0 d 0 (nI k) K = K (ab_set h d (.inl (0, n, va_cpy f g 0 0 k))) := by
  unfold ab_acp
  rw [e1, e2]
  have h1 : (0 : Int32) ≤ nI k := nI_n0 k (by omega)
  have h2 : (nI k).toNatClampNeg = k := nI_clamp (by omega)
  have h3 : (0 : Int32).toNatClampNeg = 0 := by decide
  simp [h1, h2, h3, hk]
