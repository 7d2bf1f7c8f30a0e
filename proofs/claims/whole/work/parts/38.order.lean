/-! Tying: the next order, its whole -/
/-- the last place, from g down, that is greater than at r -/
def grN (O : Nat → Int32) (r : Nat) : Nat → Nat
  | 0 => 0
  | g + 1 => if g ≤ r then g + 1 else if O r ≤ O (g + 1) then g + 1 else grN O r g
theorem grN_le (O : Nat → Int32) (r : Nat) : ∀ g, grN O r g ≤ g
  | 0 => Nat.le_refl _
  | g + 1 => by
    unfold grN
    split
    · exact Nat.le_refl _
    · split
      · exact Nat.le_refl _
      · exact Nat.le_succ_of_le (grN_le O r g)
theorem t_gr_loop {h : ab_H} {t r : Nat} {O B : Nat → Int32} (x1 : Int32) (x4 x5 : Option Value) (ht : TyAt h t O B) (hr : r < 5) : ∀ (g : Nat), g < 5 → pt_Tying_takeNextOrder_41 t x1 (nI r) (nI g) x4 x5 h = pt_Tying_takeNextOrder_69 t x1 (nI r) (nI (grN O r g)) x4 x5 h := by
  intro g
  induction g with
  | zero =>
    intro hg
    rw [q_Tying_takeNextOrder_41, nI_1, if_pos (nI_le (by omega) (by omega))]
    rfl
  | succ g ih =>
    intro hg
    unfold grN
    by_cases h1 : g ≤ r
    · rw [q_Tying_takeNextOrder_41, nI_1, if_pos (nI_le (by omega) (by omega)), if_pos h1]
    · rw [q_Tying_takeNextOrder_41, nI_1, if_neg (nI_ge (by omega) (by omega)), if_neg h1, ty_o ht, ty_lo ht hg, ty_o ht, ty_lo ht hr, nI_m1 (by omega), ih (by omega)]
      split <;> rfl
/-- the next order where it rises at r; whether there is one -/
def goO (O : Nat → Int32) (m r : Nat) : Nat → Int32 := rvO 5 (swO O r (grN O r m)) (r + 1) m
def nxO (O : Nat → Int32) (m : Nat) : Nat → Option (Nat → Int32)
  | 0 => none
  | r + 1 => if O r ≤ O (r + 1) then some (goO O m r) else nxO O m r
theorem t_go {h : ab_H} {t m r : Nat} {O B : Nat → Int32} (x4 x5 : Option Value) (ht : TyAt h t O B) (hm : m < 5) (hr : r < 5) : ∃ h', pt_Tying_takeNextOrder_41 t (nI (m + 1)) (nI r) (nI (m + 1) - 1) x4 x5 h = some (some (.int 1), h') ∧ TyAt h' t (goO O m r) B ∧ Frm h h' (t + 9) 1 := by
  have hg := grN_le O r m
  obtain ⟨h1, e1, t1, f1⟩ := t_swap ht (i := r) (j := grN O r m) hr (by omega)
  obtain ⟨h2, e2, t2, f2⟩ := t_rev_loop (nI (m + 1)) (nI r) (nI (grN O r m)) 5 (r + 1) m (swO O r (grN O r m)) h1 (by omega) hm (by omega) t1
  refine ⟨h2, ?_, t2, f1.trans f2⟩
  rw [nI_s1 (by omega), t_gr_loop _ _ _ ht hr m hm, q_Tying_takeNextOrder_69, ty_c ht, e1, cV_some, nI_s1 (by omega), nI_1, e2]
theorem t_rise_loop {h : ab_H} {t m : Nat} {O B : Nat → Int32} (x3 x4 x5 : Option Value) (ht : TyAt h t O B) (hm : m < 5) : ∀ (r : Nat), r ≤ m → ∃ h', pt_Tying_takeNextOrder_4 t (nI (m + 1)) (nI r - 1) x3 x4 x5 h = some (some (.int (if (nxO O m r).isSome then 1 else 0)), h') ∧ TyAt h' t ((nxO O m r).getD O) B ∧ Frm h h' (t + 9) 1 := by
  intro r
  induction r with
  | zero =>
    intro hr
    refine ⟨h, ?_, ht, Frm.refl _ _ _⟩
    rw [q_Tying_takeNextOrder_4, if_pos (show nI 0 - 1 < (0 : Int32) by decide), if_neg (show ¬ (0 : Int32) ≤ nI 0 - 1 by decide)]
    rfl
  | succ r ih =>
    intro hr
    rw [nI_s1 (by omega), q_Tying_takeNextOrder_4, if_neg (nI_pos (by omega)), ty_o ht, ty_lo ht (by omega), ty_o ht, nI_1, ty_lo ht (by omega), if_pos (show (0 : Int32) ≤ nI r from nI_n0 r (by omega))]
    unfold nxO
    by_cases hx : O r ≤ O (r + 1)
    · rw [if_pos hx, if_pos hx]
      obtain ⟨h1, e1, t1, f1⟩ := t_go x4 x5 ht hm (show r < 5 by omega)
      exact ⟨h1, e1, t1, f1⟩
    · rw [if_neg hx, if_neg hx]
      have e : nI r + (-1 : Int32) = nI r - 1 := by rw [Int32.sub_eq_add_neg]
      rw [e]
      exact ih (by omega)
theorem t_nextOrder {h : ab_H} {t m : Nat} {O B : Nat → Int32} (ht : TyAt h t O B) (hm : m < 5) : ∃ h', fn_Tying_takeNextOrder t (nI (m + 1)) h = some (some (.int (if (nxO O m m).isSome then 1 else 0)), h') ∧ TyAt h' t ((nxO O m m).getD O) B ∧ Frm h h' (t + 9) 1 := by
  have e : nI (m + 1) - (2 : Int32) = nI m - 1 := by
    rw [← nI_1, Int32.sub_eq_add_neg, Int32.sub_eq_add_neg, Int32.add_assoc]
    rfl
  rw [q_Tying_takeNextOrder, e]
  exact t_rise_loop none none none ht hm m (Nat.le_refl _)
