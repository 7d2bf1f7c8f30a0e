/-! Tying: the best order -/
def tmO (n : Nat) (Q V : Nat → Nat → Int32) (x : Int32) (O : Nat → Int32) : Int32 := tyV n Q V x (fun i => (O i).toNatClampNeg)
/-- most and best, by the orders from O on, at most f of them -/
def bfL (n : Nat) (Q V : Nat → Nat → Int32) (x : Int32) : Nat → (Nat → Int32) → Int32 → (Nat → Int32) → Int32 × (Nat → Int32)
  | 0, _, most, B => (most, B)
  | f + 1, O, most, B => if 8 ≤ most then (most, B) else
    match nxO O (n - 1) (n - 1) with
    | none => if tmO n Q V x O ≤ most then (most, B) else (tmO n Q V x O, va_cpy O B 0 0 n)
    | some P => if tmO n Q V x O ≤ most then bfL n Q V x f P most B else bfL n Q V x f P (tmO n Q V x O) (va_cpy O B 0 0 n)
theorem t_best_end (t s : Nat) (x y most : Int32) (i : Int32) (x7 : Option Value) (h : ab_H) : pt_Tying_bestFor_41 t s x y most 0 i x7 h = some (some (.int most), h) := by
  rw [q_Tying_bestFor_41]
  split
  · rfl
  · rw [if_pos rfl]
theorem t_best_loop {t s m a : Nat} {V Q : Nat → Nat → Int32} (x : Int32) (hm : m < 5) (hd : t + 11 ≤ s ∨ s + 21 ≤ t) : ∀ (f i : Nat) (O B : Nat → Int32) (most : Int32) (x7 : Option Value) (h : ab_H), i + f = 120 → OrdOk (m + 1) O → TyAt h t O B → RopeSh h (t + 1) → SQ h s V (m + 1) Q a → ∃ h' O', pt_Tying_bestFor_41 t s x (nI (m + 1)) most 1 (nI i) x7 h = some (some (.int (bfL (m + 1) Q V x f O most B).1), h') ∧ TyAt h' t O' (bfL (m + 1) Q V x f O most B).2 ∧ RopeSh h' (t + 1) ∧ Frm h h' t 11 := by
  intro f
  induction f with
  | zero =>
    intro i O B most x7 h hi ho ht hr hs
    rw [q_Tying_bestFor_41, if_pos (show (120 : Int32) ≤ nI i from nI_le (a := 120) (by omega) (by omega))]
    exact ⟨h, O, rfl, ht, hr, Frm.refl _ _ _⟩
  | succ f ih =>
    intro i O B most x7 h hi ho ht hr hs
    rw [q_Tying_bestFor_41, if_neg (show ¬ (120 : Int32) ≤ nI i from nI_ge (b := 120) (by omega) (by decide)), if_neg (show ¬ (1 : Int32) = 0 by decide)]
    by_cases h8 : 8 ≤ most
    · rw [if_pos h8]
      have e : bfL (m + 1) Q V x (f + 1) O most B = (most, B) := by
        show (if 8 ≤ most then (most, B) else _) = _
        rw [if_pos h8]
      rw [e]
      exact ⟨h, O, rfl, ht, hr, Frm.refl _ _ _⟩
    · rw [if_neg h8]
      obtain ⟨h1, e1, r1, f1⟩ := t_timesSaying x (fun i => (O i).toNatClampNeg) ho ht hr hs (show m + 1 ≤ 5 by omega) hd
      have ht1 := ht.frm f1 (by omega)
      have hs1 := hs.frm f1 (by omega)
      have rest : ∀ (most' : Int32) (B' : Nat → Int32) (h2 : ab_H), TyAt h2 t O B' → RopeSh h2 (t + 1) → SQ h2 s V (m + 1) Q a → Frm h h2 t 11 → ∃ h' O', (ab_ckc h2 t 5 (ab_cI (fn_Tying_takeNextOrder t (nI (m + 1)) h2) fun v4 h3 => pt_Tying_bestFor_41 t s x (nI (m + 1)) most' v4 (nI i + 1) (some (.int (tmO (m + 1) Q V x O))) h3)) = some (some (.int ((match nxO O m m with | none => (most', B') | some P => bfL (m + 1) Q V x f P most' B').1)), h') ∧ TyAt h' t O' (match nxO O m m with | none => (most', B') | some P => bfL (m + 1) Q V x f P most' B').2 ∧ RopeSh h' (t + 1) ∧ Frm h h' t 11 := by
        intro most' B' h2 ht2 hr2 hs2 f2
        obtain ⟨h3, e3, t3, f3⟩ := t_nextOrder ht2 hm
        rw [ty_c ht2, e3, cI_some, nI_1]
        have f23 := f2.trans (f3.wide (a := t + 9) (n := 1) (b := t) (m := 11) (by omega) (by omega))
        cases en : nxO O m m with
        | none =>
          rw [en] at t3
          refine ⟨h3, _, ?_, t3, hr2.frm f3 (by omega), f23⟩
          exact t_best_end t s x _ most' _ _ h3
        | some P =>
          rw [en] at t3
          obtain ⟨h4, O4, e4, t4, r4, f4⟩ := ih (i + 1) P B' most' (some (.int (tmO (m + 1) Q V x O))) h3 (by omega) (nxO_ok ho (Nat.lt_succ_self m) m P (Nat.le_refl _) en) t3 (hr2.frm f3 (by omega)) (hs2.frm f3 (by omega))
          exact ⟨h4, O4, e4, t4, r4, f23.trans f4⟩
      have eb : bfL (m + 1) Q V x (f + 1) O most B = if tmO (m + 1) Q V x O ≤ most then (match nxO O m m with | none => (most, B) | some P => bfL (m + 1) Q V x f P most B) else (match nxO O m m with | none => (tmO (m + 1) Q V x O, va_cpy O B 0 0 (m + 1)) | some P => bfL (m + 1) Q V x f P (tmO (m + 1) Q V x O) (va_cpy O B 0 0 (m + 1))) := by
        show (if 8 ≤ most then (most, B) else _) = _
        rw [if_neg h8, Nat.add_sub_cancel]
        cases nxO O m m <;> rfl
      rw [ty_c ht, e1, cI_some, eb]
      by_cases hx : tmO (m + 1) Q V x O ≤ most
      · rw [if_pos hx, if_pos (show tyV (m + 1) Q V x (fun i => (O i).toNatClampNeg) ≤ most from hx)]
        exact rest most B h1 ht1 r1 hs1 (f1.wide (by omega) (by omega))
      · rw [if_neg hx, if_neg (show ¬ tyV (m + 1) Q V x (fun i => (O i).toNatClampNeg) ≤ most from hx), ty_o ht1, ty_b ht1, acp_in ht1.2.1 ht1.2.2 (by omega) (by decide)]
        have f2 := Frm.set h1 (t + 10) (.inl (0, 5, va_cpy O B 0 0 (m + 1)))
        exact rest (tmO (m + 1) Q V x O) (va_cpy O B 0 0 (m + 1)) _ (ty_ub ht1 _) (r1.frm f2 (by omega)) (hs1.frm f2 (by omega)) ((f1.wide (by omega) (by omega)).trans (f2.wide (by omega) (by omega)))
