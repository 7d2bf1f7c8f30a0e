/-! Text: the next token -/
def spL (b : Nat → Int32) (L : Nat) : Nat → Nat → Nat
  | 0, i => i
  | k + 1, i => if L ≤ i then i else if b i = 32 then spL b L k (i + 1) else i
def exL (b : Nat → Int32) (L : Nat) (tk : Int32) : Nat → Nat → Nat
  | 0, e => e
  | k + 1, e => if 1 < tk then e else if L ≤ e then e else if soV (b e) = tk then exL b L tk k (e + 1) else e
theorem spL_le (b : Nat → Int32) (L : Nat) : ∀ k i, i ≤ L → i ≤ spL b L k i ∧ spL b L k i ≤ L
  | 0, i, h => ⟨Nat.le_refl _, h⟩
  | k + 1, i, h => by
    unfold spL
    split
    · exact ⟨Nat.le_refl _, h⟩
    · split
      · have := spL_le b L k (i + 1) (by omega)
        omega
      · exact ⟨Nat.le_refl _, h⟩
theorem exL_le (b : Nat → Int32) (L : Nat) (tk : Int32) : ∀ k i, i ≤ L → i ≤ exL b L tk k i ∧ exL b L tk k i ≤ L
  | 0, i, h => ⟨Nat.le_refl _, h⟩
  | k + 1, i, h => by
    unfold exL
    split
    · exact ⟨Nat.le_refl _, h⟩
    · split
      · exact ⟨Nat.le_refl _, h⟩
      · split
        · have := exL_le b L tk k (i + 1) (by omega)
          omega
        · exact ⟨Nat.le_refl _, h⟩
theorem t_ex_loop {x L st : Nat} {b : Nat → Int32} {tk : Int32} (hL : L ≤ 150) : ∀ (k e : Nat) (h : ab_H), e + k = L → TxAt h x L b tk st e → ∃ h', pt_Text_advance_97 x h = some (none, h') ∧ TxAt h' x L b tk st (exL b L tk k e) ∧ Frm h h' x 2 := by
  intro k
  induction k with
  | zero =>
    intro e h he hx
    rw [q_Text_advance_97, tx_t hx]
    refine ⟨h, ?_, hx, Frm.refl _ _ _⟩
    split
    · rfl
    · rw [tx_e hx, tx_n hx, if_pos (nI_le (by omega) (by omega))]
  | succ k ih =>
    intro e h he hx
    rw [q_Text_advance_97, tx_t hx]
    unfold exL
    by_cases h1 : 1 < tk
    · rw [if_pos h1, if_pos h1]
      exact ⟨h, rfl, hx, Frm.refl _ _ _⟩
    · rw [if_neg h1, if_neg h1, tx_e hx, tx_n hx, if_neg (nI_ge (by omega) (by omega)), if_neg (show ¬ L ≤ e by omega), tx_b hx, tx_e hx, tx_l hx (by omega), t_sortOf, cI_some, tx_t hx]
      by_cases h2 : soV (b e) = tk
      · rw [if_pos h2, if_pos h2, tx_e hx, nI_1, tx_pe hx]
        obtain ⟨h3, e3, x3, f3⟩ := ih (e + 1) _ (by omega) (tx_u hx L tk st (e + 1))
        exact ⟨h3, e3, x3, ((Frm.set _ _ _).wide (by omega) (by omega)).trans f3⟩
      · rw [if_neg h2, if_neg h2]
        exact ⟨h, rfl, hx, Frm.refl _ _ _⟩
