/-! Ways: the walk -/
def WallOk (V : Nat → Nat → Int32) : Prop := ∀ p, p < 8 → (∃ l, V 2 p = nI l ∧ p < l ∧ l ≤ 8) ∧ (∃ r, V 3 p = nI r ∧ p < r ∧ r ≤ 8)
def nxN (n : Nat) (Q V : Nat → Nat → Int32) (p : Nat) : Nat := (nxtR n Q V p).toNatClampNeg
theorem nx_is {n p : Nat} {Q V : Nat → Nat → Int32} (hw : WallOk V) (hp : p < 8) : nxtR n Q V p = nI (nxN n Q V p) ∧ p < nxN n Q V p ∧ nxN n Q V p ≤ 8 := by
  obtain ⟨⟨l, e1, h1, h2⟩, ⟨r, e2, h3, h4⟩⟩ := hw p hp
  have e : nxtR n Q V p = nI l ∨ nxtR n Q V p = nI r := by
    unfold nxtR nxV
    rw [e1, e2]
    split
    · exact Or.inl rfl
    · split
      · exact Or.inr rfl
      · exact Or.inl rfl
  unfold nxN
  rcases e with e | e
  · rw [e, nI_clamp (by omega)]
    exact ⟨rfl, h1, h2⟩
  · rw [e, nI_clamp (by omega)]
    exact ⟨rfl, h3, h4⟩
def WyAt (h : ab_H) (y k : Nat) (F S : Nat → Int32) : Prop := ab_get h y = some (.inr (9, [.ref (y + 1), .ref (y + 9), .ref (y + 10), .int (nI k)])) ∧ ab_get h (y + 9) = some (.inl (0, 9, F)) ∧ ab_get h (y + 10) = some (.inl (0, 8, S))
theorem WyAt.frm {h h' : ab_H} {y k b m : Nat} {F S : Nat → Int32} (hy : WyAt h y k F S) (f : Frm h h' b m) (hd : (y < b ∨ b + m ≤ y) ∧ (y + 11 ≤ b ∨ b + m ≤ y + 9)) : WyAt h' y k F S :=
  ⟨by rw [f.2 _ (by omega)]; exact hy.1, by rw [f.2 _ (by omega)]; exact hy.2.1, by rw [f.2 _ (by omega)]; exact hy.2.2⟩
section
variable {T : Type} {h : ab_H} {y k : Nat} {F S : Nat → Int32}
theorem wy_r (hy : WyAt h y k F S) (K : Nat → Option T) : ab_gfr h y 9 0 K = K (y + 1) := gfr_at hy.1 rfl K
theorem wy_f (hy : WyAt h y k F S) (K : Nat → Option T) : ab_gfr h y 9 1 K = K (y + 9) := gfr_at hy.1 rfl K
theorem wy_s (hy : WyAt h y k F S) (K : Nat → Option T) : ab_gfr h y 9 2 K = K (y + 10) := gfr_at hy.1 rfl K
theorem wy_k (hy : WyAt h y k F S) (K : Int32 → Option T) : ab_gfi h y 9 3 K = K (nI k) := gfi_at hy.1 rfl K
theorem wy_c (hy : WyAt h y k F S) (K : Option T) : ab_ckc h y 9 K = K := ckc_at hy.1 K
theorem wy_lf (hy : WyAt h y k F S) {p : Nat} (hp : p < 9) (K : Int32 → Option T) : ab_iald h (y + 9) (nI p) K = K (F p) := iald_at hy.2.1 hp (by decide) K
theorem wy_ls (hy : WyAt h y k F S) {p : Nat} (hp : p < 8) (K : Int32 → Option T) : ab_iald h (y + 10) (nI p) K = K (S p) := iald_at hy.2.2 hp (by decide) K
theorem wy_af (hy : WyAt h y k F S) {p : Nat} (hp : p < 9) (x : Int32) (K : ab_H → Option T) : ab_iast h (y + 9) (nI p) x K = K (ab_set h (y + 9) (.inl (0, 9, upd F p x))) := iast_at hy.2.1 hp (by decide) x K
theorem wy_as (hy : WyAt h y k F S) {p : Nat} (hp : p < 8) (x : Int32) (K : ab_H → Option T) : ab_iast h (y + 10) (nI p) x K = K (ab_set h (y + 10) (.inl (0, 8, upd S p x))) := iast_at hy.2.2 hp (by decide) x K
theorem wy_p (hy : WyAt h y k F S) (x : Int32) (K : ab_H → Option T) : ab_pf h y 9 3 (.int x) K = K (ab_set h y (.inr (9, [.ref (y + 1), .ref (y + 9), .ref (y + 10), .int x]))) := pf_at hy.1 (show 3 < 4 by decide) _ K
end
theorem wy_uf {h : ab_H} {y k : Nat} {F S : Nat → Int32} (hy : WyAt h y k F S) (G : Nat → Int32) : WyAt (ab_set h (y + 9) (.inl (0, 9, G))) y k G S := by
  refine ⟨?_, get_same _ _ _, ?_⟩
  · rw [get_ne _ _ (by omega)]; exact hy.1
  · rw [get_ne _ _ (by omega)]; exact hy.2.2
theorem wy_us {h : ab_H} {y k : Nat} {F S : Nat → Int32} (hy : WyAt h y k F S) (G : Nat → Int32) : WyAt (ab_set h (y + 10) (.inl (0, 8, G))) y k F G := by
  refine ⟨?_, ?_, get_same _ _ _⟩
  · rw [get_ne _ _ (by omega)]; exact hy.1
  · rw [get_ne _ _ (by omega)]; exact hy.2.1
theorem wy_uk {h : ab_H} {y k : Nat} {F S : Nat → Int32} (hy : WyAt h y k F S) (l : Nat) : WyAt (ab_set h y (.inr (9, [.ref (y + 1), .ref (y + 9), .ref (y + 10), .int (nI l)]))) y l F S := by
  refine ⟨get_same _ _ _, ?_, ?_⟩
  · rw [get_ne _ _ (by omega)]; exact hy.2.1
  · rw [get_ne _ _ (by omega)]; exact hy.2.2
/-- how many steps they go; where they come to at the step i -/
def wkN (n : Nat) (V : Nat → Nat → Int32) : Nat → (Nat → Nat → Int32) → Nat → Nat
  | 0, _, _ => 0
  | f + 1, Q, a => if 8 ≤ a then 0 else wkN n V f (ropU Q 5 (bt1 0)) (nxN n Q V a) + 1
def wkS (n : Nat) (V : Nat → Nat → Int32) : Nat → (Nat → Nat → Int32) → Nat → Nat → Nat
  | 0, _, _, _ => 0
  | _ + 1, Q, a, 0 => nxN n Q V a
  | f + 1, Q, a, i + 1 => wkS n V f (ropU Q 5 (bt1 0)) (nxN n Q V a) i
theorem wkN_s {n f a : Nat} {V Q : Nat → Nat → Int32} (h : ¬ 8 ≤ a) : wkN n V (f + 1) Q a = wkN n V f (ropU Q 5 (bt1 0)) (nxN n Q V a) + 1 := by
  show (if 8 ≤ a then 0 else _) = _
  rw [if_neg h]
theorem wkN_top (n : Nat) (V : Nat → Nat → Int32) : ∀ (f : Nat) (Q : Nat → Nat → Int32) (a : Nat), 8 ≤ a → wkN n V f Q a = 0
  | 0, _, _, _ => rfl
  | f + 1, Q, a, h => by unfold wkN; rw [if_pos h]
theorem wkN_le (n : Nat) (V : Nat → Nat → Int32) (hw : WallOk V) : ∀ (f : Nat) (Q : Nat → Nat → Int32) (a : Nat), a ≤ 8 → wkN n V f Q a + a ≤ 8
  | 0, _, _, h => by unfold wkN; omega
  | f + 1, Q, a, h => by
    unfold wkN
    split
    · omega
    · obtain ⟨-, h1, h2⟩ := nx_is (n := n) (Q := Q) hw (show a < 8 by omega)
      have := wkN_le n V hw f (ropU Q 5 (bt1 0)) (nxN n Q V a) h2
      omega
theorem t_walk_loop {y s n b : Nat} {V B : Nat → Nat → Int32} (hn : n ≤ 5) (hw : WallOk V) (hd : y + 11 ≤ s ∨ s + 21 ≤ y) : ∀ (f : Nat) (Q : Nat → Nat → Int32) (a k : Nat) (F S : Nat → Int32) (h : ab_H), 8 ≤ a + f → a ≤ 8 → k ≤ a → WyAt h y k F S → SQ h s V n B b → RopeIs h (y + 1) n Q → ∃ h' S', pt_Ways_walk_21 y s (nI a) h = some (none, h') ∧ WyAt h' y (k + wkN n V f Q a) F S' ∧ (∀ i, i < k → S' i = S i) ∧ (∀ i, i < wkN n V f Q a → S' (k + i) = nI (wkS n V f Q a i)) ∧ RopeSh h' (y + 1) ∧ Frm h h' y 11 := by
  intro f
  induction f with
  | zero =>
    intro Q a k F S h h1 h2 h3 hy hs hr
    have ha : a = 8 := by omega
    subst ha
    refine ⟨h, S, ?_, hy, fun _ _ => rfl, fun i hi => absurd hi (Nat.not_lt_zero i), ⟨_, _, hr⟩, Frm.refl _ _ _⟩
    rw [q_Ways_walk_21, wy_k hy]
    split
    · rfl
    · rw [if_pos (show (8 : Int32) ≤ nI 8 from nI_le (a := 8) (by omega) (by omega))]
  | succ f ih =>
    intro Q a k F S h h1 h2 h3 hy hs hr
    by_cases ha : 8 ≤ a
    · have ha : a = 8 := by omega
      subst ha
      rw [wkN_top n V _ _ _ (by omega)]
      refine ⟨h, S, ?_, hy, fun _ _ => rfl, fun i hi => absurd hi (Nat.not_lt_zero i), ⟨_, _, hr⟩, Frm.refl _ _ _⟩
      rw [q_Ways_walk_21, wy_k hy]
      split
      · rfl
      · rw [if_pos (show (8 : Int32) ≤ nI 8 from nI_le (a := 8) (by omega) (by omega))]
    · obtain ⟨en, n1, n2⟩ := nx_is (n := n) (Q := Q) hw (show a < 8 by omega)
      obtain ⟨h4, e4, r4, f4⟩ := t_setSags hr hn (m := 0) (by omega)
      have hy4 := hy.frm f4 (by omega)
      have hs4 := hs.frm f4 (by omega)
      have hy5 := wy_us hy4 (upd S k (nI (nxN n Q V a)))
      have f5 := Frm.set h4 (y + 10) (.inl (0, 8, upd S k (nI (nxN n Q V a))))
      have hy6 := wy_uk hy5 (k + 1)
      have f6 := Frm.set (ab_set h4 (y + 10) (.inl (0, 8, upd S k (nI (nxN n Q V a))))) y (.inr (9, [.ref (y + 1), .ref (y + 9), .ref (y + 10), .int (nI (k + 1))]))
      obtain ⟨h', S', e7, hy7, g1, g2, r7, f7⟩ := ih (ropU Q 5 (bt1 0)) (nxN n Q V a) (k + 1) F (upd S k (nI (nxN n Q V a))) _ (by omega) n2 (by omega) hy6 ((hs4.frm f5 (by omega)).frm f6 (by omega)) ((r4.frm f5 (by omega)).frm f6 (by omega))
      rw [nI_0] at e4
      refine ⟨h', S', ?_, ?_, ?_, ?_, r7, ((f4.wide (by omega) (by omega)).trans (f5.wide (by omega) (by omega))).trans ((f6.wide (by omega) (by omega)).trans f7)⟩
      · rw [q_Ways_walk_21, wy_k hy, if_neg (show ¬ (8 : Int32) ≤ nI k from nI_ge (b := 8) (by omega) (by decide)), if_neg (show ¬ (8 : Int32) ≤ nI a from nI_ge (b := 8) (by omega) (by decide)), wy_r hy, sq_w hs, ri_c hr, t_next hr hs.2.1 hn (by omega), cI_some, wy_r hy, ri_c hr, e4, cV_some, wy_s hy4, wy_k hy4, en, wy_as hy4 (by omega), wy_k hy5, nI_1, wy_p hy5]
        exact e7
      · have e : k + wkN n V (f + 1) Q a = k + 1 + wkN n V f (ropU Q 5 (bt1 0)) (nxN n Q V a) := by
          rw [wkN_s ha]
          omega
        rw [e]
        exact hy7
      · intro i hi
        rw [g1 i (by omega)]
        simp only [upd]
        rw [if_neg (by omega)]
      · intro i hi
        rw [wkN_s ha] at hi
        cases i with
        | zero =>
          rw [Nat.add_zero, g1 k (by omega)]
          simp only [upd, if_true]
          rfl
        | succ i =>
          have := g2 i (by omega)
          rw [show k + (i + 1) = k + 1 + i by omega, this]
          rfl
theorem t_walk {h : ab_H} {y s n a k : Nat} {V Q : Nat → Nat → Int32} {F S : Nat → Int32} (hy : WyAt h y k F S) (hr : RopeSh h (y + 1)) (hs : SQ h s V n Q a) (hn : n ≤ 5) (ha : a ≤ 8) (hw : WallOk V) (hd : y + 11 ≤ s ∨ s + 21 ≤ y) : ∃ h' S', fn_Ways_walk y s h = some (none, h') ∧ WyAt h' y (wkN n V 8 Q a) F S' ∧ (∀ i, i < wkN n V 8 Q a → S' i = nI (wkS n V 8 Q a i)) ∧ RopeSh h' (y + 1) ∧ Frm h h' y 11 := by
  obtain ⟨l, P, hr⟩ := hr
  obtain ⟨h1, e1, r1, f1⟩ := t_copy hr hs.2.2 (by omega) hn
  have hy1 := hy.frm f1 (by omega)
  have hs1 := hs.frm f1 (by omega)
  have hy2 := wy_uk hy1 0
  have f2 := Frm.set h1 y (.inr (9, [.ref (y + 1), .ref (y + 9), .ref (y + 10), .int (nI 0)]))
  have hs2 := hs1.frm f2 (by omega)
  obtain ⟨h', S', e3, hy3, -, g, r3, f3⟩ := t_walk_loop hn hw hd 8 Q a 0 F S _ (by omega) ha (by omega) hy2 hs2 (r1.frm f2 (by omega))
  simp only [Nat.zero_add] at hy3 g
  refine ⟨h', S', ?_, hy3, g, r3, ((f1.wide (by omega) (by omega)).trans (f2.wide (by omega) (by omega))).trans f3⟩
  rw [q_Ways_walk, wy_r hy, sq_r hs, ri_c hr, e1, cV_some, ← nI_0, wy_p hy1, sq_a hs2]
  exact e3
