/-! Tying: the next order -/
def swO (O : Nat → Int32) (i j : Nat) : Nat → Int32 := upd (upd O i (O j)) j (O i)
theorem t_swap {h : ab_H} {t i j : Nat} {O B : Nat → Int32} (ht : TyAt h t O B) (hi : i < 5) (hj : j < 5) : ∃ h', fn_Tying_swap t (nI i) (nI j) h = some (none, h') ∧ TyAt h' t (swO O i j) B ∧ Frm h h' (t + 9) 1 := by
  have h1 := ty_uo ht (upd O i (O j))
  have f1 := Frm.set h (t + 9) (.inl (0, 5, upd O i (O j)))
  refine ⟨_, ?_, ty_uo h1 (swO O i j), f1.trans (Frm.set _ _ _)⟩
  rw [q_Tying_swap, ty_o ht, ty_lo ht hi, ty_o ht, ty_o ht, ty_lo ht hj, ty_ao ht hi, ty_o h1, ty_ao h1 hj]
  rfl
/-- places turned round -/
def rvO : Nat → (Nat → Int32) → Nat → Nat → Nat → Int32
  | 0, O, _, _ => O
  | f + 1, O, l, u => if u ≤ l then O else rvO f (swO O l u) (l + 1) (u - 1)
theorem t_rev_loop {t : Nat} {B : Nat → Int32} (x1 x2 x3 : Int32) : ∀ (f l u : Nat) (O : Nat → Int32) (h : ab_H), u ≤ l + f → u < 5 → l ≤ 9 → TyAt h t O B → ∃ h', pt_Tying_takeNextOrder_85 t x1 x2 x3 (nI l) (nI u) h = some (some (.int 1), h') ∧ TyAt h' t (rvO f O l u) B ∧ Frm h h' (t + 9) 1 := by
  intro f
  induction f with
  | zero =>
    intro l u O h hf hu hl ht
    rw [q_Tying_takeNextOrder_85, if_pos (nI_le (by omega) (by omega))]
    exact ⟨h, rfl, ht, Frm.refl _ _ _⟩
  | succ f ih =>
    intro l u O h hf hu hl ht
    unfold rvO
    by_cases hx : u ≤ l
    · rw [q_Tying_takeNextOrder_85, if_pos (nI_le hx (by omega)), if_pos hx]
      exact ⟨h, rfl, ht, Frm.refl _ _ _⟩
    · obtain ⟨v, ev⟩ : ∃ v, u = v + 1 := ⟨u - 1, by omega⟩
      subst ev
      obtain ⟨h1, e1, t1, f1⟩ := t_swap ht (i := l) (j := v + 1) (by omega) (by omega)
      obtain ⟨h2, e2, t2, f2⟩ := ih (l + 1) v (swO O l (v + 1)) h1 (by omega) (by omega) (by omega) t1
      rw [q_Tying_takeNextOrder_85, if_neg (nI_ge (by omega) (by omega)), ty_c ht, e1, cV_some, nI_1, nI_m1 (by omega), if_neg hx]
      exact ⟨h2, e2, t2, f1.trans f2⟩
