/-! Tying: the best order, from the first on -/
theorem t_first_loop {t s m a : Nat} {V Q : Nat → Nat → Int32} {B : Nat → Int32} (x : Int32) (x5 x6 x7 : Option Value) (hm : m < 5) (hd : t + 11 ≤ s ∨ s + 21 ≤ t) : ∀ (k i : Nat) (O : Nat → Int32) (h : ab_H), i + k = m + 1 → (∀ j, j < i → O j = nI j) → TyAt h t O B → RopeSh h (t + 1) → SQ h s V (m + 1) Q a → ∃ h' P O', (∀ j, j < m + 1 → P j = nI j) ∧ pt_Tying_bestFor_11 t s x (nI (m + 1)) (nI i) x5 x6 x7 h = some (some (.int (bfL (m + 1) Q V x 120 P (-1) B).1), h') ∧ TyAt h' t O' (bfL (m + 1) Q V x 120 P (-1) B).2 ∧ RopeSh h' (t + 1) ∧ Frm h h' t 11 := by
  intro k
  induction k with
  | zero =>
    intro i O h hi hO ht hr hs
    have e : i = m + 1 := by omega
    subst e
    have ok : OrdOk (m + 1) O := fun j hj => by
      rw [hO j hj, nI_clamp (by omega)]
      exact ⟨hj, rfl⟩
    obtain ⟨h1, O1, e1, t1, r1, f1⟩ := t_best_loop x hm hd 120 0 O B (-1) x7 h (by omega) ok ht hr hs
    rw [nI_0] at e1
    rw [q_Tying_bestFor_11, if_pos (nI_le (by omega) (by omega))]
    exact ⟨h1, O, O1, hO, e1, t1, r1, f1⟩
  | succ k ih =>
    intro i O h hi hO ht hr hs
    have f1 := Frm.set h (t + 9) (.inl (0, 5, upd O i (nI i)))
    obtain ⟨h2, P, O2, hP, e2, t2, r2, f2⟩ := ih (i + 1) (upd O i (nI i)) _ (by omega) (fun j hj => by
      simp only [upd]
      split
      · rename_i e; rw [e]
      · exact hO j (by omega)) (ty_uo ht _) (hr.frm f1 (by omega)) (hs.frm f1 (by omega))
    refine ⟨h2, P, O2, hP, ?_, t2, r2, (f1.wide (by omega) (by omega)).trans f2⟩
    rw [q_Tying_bestFor_11, if_neg (nI_ge (by omega) (by omega)), ty_o ht, ty_ao ht (by omega), nI_1]
    exact e2
theorem t_bestFor {h : ab_H} {t s m a : Nat} {V Q : Nat → Nat → Int32} {O B : Nat → Int32} (x : Int32) (hm : m < 5) (hd : t + 11 ≤ s ∨ s + 21 ≤ t) (ht : TyAt h t O B) (hr : RopeSh h (t + 1)) (hs : SQ h s V (m + 1) Q a) : ∃ h' P O', (∀ j, j < m + 1 → P j = nI j) ∧ fn_Tying_bestFor t s x h = some (some (.int (bfL (m + 1) Q V x 120 P (-1) B).1), h') ∧ TyAt h' t O' (bfL (m + 1) Q V x 120 P (-1) B).2 ∧ RopeSh h' (t + 1) ∧ Frm h h' t 11 := by
  obtain ⟨h1, P, O1, hP, e1, r⟩ := t_first_loop x none none none hm hd (m + 1) 0 O h (by omega) (fun j hj => absurd hj (Nat.not_lt_zero j)) ht hr hs
  rw [nI_0] at e1
  refine ⟨h1, P, O1, hP, ?_, r⟩
  rw [q_Tying_bestFor, sq_r hs, ri_n hs.2.2, e1]
