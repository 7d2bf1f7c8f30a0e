/-! Text: the tokens -/
def TxAt (h : ab_H) (x L : Nat) (b : Nat → Int32) (tk : Int32) (st en : Nat) : Prop := ab_get h x = some (.inr (4, [.int (nI L), .ref (x + 1), .int tk, .int (nI st), .int (nI en)])) ∧ ab_get h (x + 1) = some (.inl (1, 150, b))
theorem TxAt.frm {h h' : ab_H} {x L st en a m : Nat} {b : Nat → Int32} {tk : Int32} (hx : TxAt h x L b tk st en) (f : Frm h h' a m) (hd : x + 2 ≤ a ∨ a + m ≤ x) : TxAt h' x L b tk st en :=
  ⟨by rw [f.2 _ (by omega)]; exact hx.1, by rw [f.2 _ (by omega)]; exact hx.2⟩
section
variable {T : Type} {h : ab_H} {x L st en : Nat} {b : Nat → Int32} {tk : Int32}
theorem tx_n (hx : TxAt h x L b tk st en) (K : Int32 → Option T) : ab_gfi h x 4 0 K = K (nI L) := gfi_at hx.1 rfl K
theorem tx_b (hx : TxAt h x L b tk st en) (K : Nat → Option T) : ab_gfr h x 4 1 K = K (x + 1) := gfr_at hx.1 rfl K
theorem tx_t (hx : TxAt h x L b tk st en) (K : Int32 → Option T) : ab_gfi h x 4 2 K = K tk := gfi_at hx.1 rfl K
theorem tx_s (hx : TxAt h x L b tk st en) (K : Int32 → Option T) : ab_gfi h x 4 3 K = K (nI st) := gfi_at hx.1 rfl K
theorem tx_e (hx : TxAt h x L b tk st en) (K : Int32 → Option T) : ab_gfi h x 4 4 K = K (nI en) := gfi_at hx.1 rfl K
theorem tx_c (hx : TxAt h x L b tk st en) (K : Option T) : ab_ckc h x 4 K = K := ckc_at hx.1 K
end
def soV (c : Int32) : Int32 := if c < 97 ∨ 122 < c then (if c < 48 ∨ 57 < c then (if c = 59 then 2 else 3) else 1) else 0
theorem t_sortOf (c : Int32) (h : ab_H) : fn_Text_sortOf c h = some (some (.int (soV c)), h) := by
  rw [q_Text_sortOf, q_Text_sortOf_14]
  unfold soV
  have k : ∀ (p : Prop) [Decidable p], (if c < 97 then (if c < 48 then (if p then (some (some (Value.int 2), h)) else (some (some (Value.int 3), h))) else (if 57 < c then (if p then (some (some (Value.int 2), h)) else (some (some (Value.int 3), h))) else (some (some (Value.int 1), h)))) else (if 122 < c then (if c < 48 then (if p then (some (some (Value.int 2), h)) else (some (some (Value.int 3), h))) else (if 57 < c then (if p then (some (some (Value.int 2), h)) else (some (some (Value.int 3), h))) else (some (some (Value.int 1), h)))) else (some (some (Value.int 0), h)))) = some (some (Value.int (if c < 97 ∨ 122 < c then (if c < 48 ∨ 57 < c then (if p then 2 else 3) else 1) else 0)), h) := by
    intro p hp
    by_cases h1 : c < 97 <;> by_cases h2 : 122 < c <;> by_cases h3 : c < 48 <;> by_cases h4 : 57 < c <;> by_cases h5 : p <;> simp only [h1, h2, h3, h4, h5, if_true, if_false, or_true, true_or, or_self, or_false, false_or]
  exact k (c = 59)
