/-! Tying: a row of places stays one -/
def OrdOk (n : Nat) (O : Nat → Int32) : Prop := ∀ i, i < n → (O i).toNatClampNeg < n ∧ O i = nI (O i).toNatClampNeg
theorem swO_ok {n i j : Nat} {O : Nat → Int32} (ho : OrdOk n O) (hi : i < n) (hj : j < n) : OrdOk n (swO O i j) := by
  intro l hl
  simp only [swO, upd]
  split
  · exact ho i hi
  · split
    · exact ho j hj
    · exact ho l hl
theorem rvO_ok {n : Nat} : ∀ (f : Nat) (O : Nat → Int32) (l u : Nat), OrdOk n O → u < n → OrdOk n (rvO f O l u)
  | 0, _, _, _, h, _ => h
  | f + 1, O, l, u, h, hu => by
    unfold rvO
    split
    · exact h
    · exact rvO_ok f _ _ _ (swO_ok h (by omega) hu) (by omega)
theorem nxO_ok {n m : Nat} {O : Nat → Int32} (ho : OrdOk n O) (hm : m < n) : ∀ (r : Nat) (P : Nat → Int32), r ≤ m → nxO O m r = some P → OrdOk n P
  | 0, _, _, e => by cases e
  | r + 1, P, hr, e => by
    unfold nxO at e
    split at e
    · have e := Option.some.inj e
      rw [← e]
      unfold goO
      exact rvO_ok _ _ _ _ (swO_ok ho (by omega) (by have := grN_le O r m; omega)) hm
    · exact nxO_ok ho hm r P (by omega) e
