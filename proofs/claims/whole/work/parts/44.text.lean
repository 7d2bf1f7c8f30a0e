/-! Text: reading bytes, setting fields -/
theorem bald_at {T : Type} {h : ab_H} {a n : Nat} {f : Nat → Int32} (e : ab_get h a = some (.inl (1, n, f))) {p : Nat} (hp : p < n) (hn : n < 2 ^ 31) (K : Int32 → Option T) : ab_bald h a (nI p) K = K (f p) := by
  unfold ab_bald
  rw [e]
  simp only
  rw [nI_clamp (by omega), if_pos ⟨Or.inl trivial, nI_n0 p (by omega), hp⟩]
theorem tx_l {T : Type} {h : ab_H} {x L st en : Nat} {b : Nat → Int32} {tk : Int32} (hx : TxAt h x L b tk st en) {p : Nat} (hp : p < 150) (K : Int32 → Option T) : ab_bald h (x + 1) (nI p) K = K (b p) := bald_at hx.2 hp (by decide) K
def txC (x L : Nat) (tk : Int32) (st en : Nat) : ab_Ce := .inr (4, [.int (nI L), .ref (x + 1), .int tk, .int (nI st), .int (nI en)])
section
variable {T : Type} {h : ab_H} {x L st en : Nat} {b : Nat → Int32} {tk : Int32}
theorem tx_pt (hx : TxAt h x L b tk st en) (y : Int32) (K : ab_H → Option T) : ab_pf h x 4 2 (.int y) K = K (ab_set h x (txC x L y st en)) := pf_at hx.1 (show 2 < 5 by decide) _ K
theorem tx_ps (hx : TxAt h x L b tk st en) (y : Nat) (K : ab_H → Option T) : ab_pf h x 4 3 (.int (nI y)) K = K (ab_set h x (txC x L tk y en)) := pf_at hx.1 (show 3 < 5 by decide) _ K
theorem tx_pe (hx : TxAt h x L b tk st en) (y : Nat) (K : ab_H → Option T) : ab_pf h x 4 4 (.int (nI y)) K = K (ab_set h x (txC x L tk st y)) := pf_at hx.1 (show 4 < 5 by decide) _ K
theorem tx_u (hx : TxAt h x L b tk st en) (M : Nat) (u : Int32) (s e : Nat) : TxAt (ab_set h x (txC x M u s e)) x M b u s e := ⟨get_same _ _ _, by rw [get_ne _ _ (by omega)]; exact hx.2⟩
end
