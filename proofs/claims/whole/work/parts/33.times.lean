/-! Ways: how many of the tried walls come by -/
def lcg (X : Nat) : Nat := (X * 1103515245 + 12345) % 2147483648
theorem lcg_lt (X : Nat) : lcg X < 2 ^ 31 := Nat.mod_lt _ (by decide)
theorem lcg_is {X : Nat} (hX : X < 2 ^ 31) : ((lN X * (1103515245 : Int64)) + (12345 : Int64)) - ((lN X * (1103515245 : Int64)) + (12345 : Int64)) / (2147483648 : Int64) * (2147483648 : Int64) = lN (lcg X) := by
  have e1 : (lN X * (1103515245 : Int64)) + (12345 : Int64) = lN (X * 1103515245 + 12345) := by
    rw [← lN_add, ← lN_mul]
    rfl
  rw [e1]
  exact pk_lRem (b := 2147483648) (by omega) (by decide) (by decide)
theorem lcg_bits {L : Nat} (hL : L < 2 ^ 31) : Int64.toInt32 ((lN L / (65536 : Int64)) - (lN L / (65536 : Int64)) / (32 : Int64) * (32 : Int64)) = nI (L / 65536 % 32) := by
  have e1 : lN L / (65536 : Int64) = lN (L / 65536) := pk_lDiv (b := 65536) (by omega) (by decide) (by decide)
  rw [e1, ← lN_i]
  exact congrArg Int64.toInt32 (pk_lRem (b := 32) (by omega) (by decide) (by decide))
/-- one walk by drawn sags: what is drawn next, whether they came by -/
def twL (n : Nat) (V Q : Nat → Nat → Int32) (p : Int32) : Nat → Nat → Nat → Int32 → Nat × Int32
  | 0, X, _, c => (X, c)
  | f + 1, X, a, c => if 8 ≤ a then (X, c) else twL n V Q p f (lcg X) (nxN n (ropU Q 5 (bt1 (lcg X / 65536 % 32))) V a) (if c = 0 then (if nI (nxN n (ropU Q 5 (bt1 (lcg X / 65536 % 32))) V a) = p then 1 else 0) else 1)
theorem twL_lt (n : Nat) (V Q : Nat → Nat → Int32) (p : Int32) : ∀ (f X a : Nat) (c : Int32), X < 2 ^ 31 → (twL n V Q p f X a c).1 < 2 ^ 31
  | 0, _, _, _, h => h
  | f + 1, X, a, c, h => by
    unfold twL
    split
    · exact h
    · exact twL_lt n V Q p f _ _ _ (lcg_lt X)
theorem t_tw_loop {y s n b kk : Nat} {V Q B : Nat → Nat → Int32} {F S : Nat → Int32} (sd tn p tm ti : Int32) (hn : n ≤ 5) (hw : WallOk V) (hd : y + 11 ≤ s ∨ s + 21 ≤ y) : ∀ (f X a i : Nat) (c : Int32) (g : Nat → Int32) (h : ab_H), i + f = 8 → X < 2 ^ 31 → a ≤ 8 → WyAt h y kk F S → SQ h s V n B b → RopeIs h (y + 1) n (ropU Q 5 g) → ∃ a' i' h' g', pt_Ways_timesBy_50 y s sd tn p (lN X) tm ti (nI a) c (nI i) h = pt_Ways_timesBy_138 y s sd tn p (lN (twL n V Q p f X a c).1) tm ti a' (twL n V Q p f X a c).2 i' h' ∧ RopeIs h' (y + 1) n (ropU Q 5 g') ∧ Frm h h' (y + 1) 8 := by
  intro f
  induction f with
  | zero =>
    intro X a i c g h hi hX ha hy hs hr
    rw [q_Ways_timesBy_50, if_pos (show (8 : Int32) ≤ nI i from nI_le (a := 8) (by omega) (by omega))]
    exact ⟨_, _, h, g, rfl, hr, Frm.refl _ _ _⟩
  | succ f ih =>
    intro X a i c g h hi hX ha hy hs hr
    rw [q_Ways_timesBy_50, if_neg (show ¬ (8 : Int32) ≤ nI i from nI_ge (b := 8) (by omega) (by decide))]
    unfold twL
    by_cases h8 : 8 ≤ a
    · rw [if_pos (show (8 : Int32) ≤ nI a from nI_le (a := 8) (by omega) (by omega)), if_pos h8]
      exact ⟨_, _, h, g, rfl, hr, Frm.refl _ _ _⟩
    · have hm : lcg X / 65536 % 32 < 32 := Nat.mod_lt _ (by decide)
      obtain ⟨h1, e1, r1, f1⟩ := t_setSags hr hn (m := lcg X / 65536 % 32) (by omega)
      rw [ropU_ropU] at r1
      have hy1 := hy.frm f1 (by omega)
      have hs1 := hs.frm f1 (by omega)
      obtain ⟨en, n1, n2⟩ := nx_is (n := n) (Q := ropU Q 5 (bt1 (lcg X / 65536 % 32))) hw (show a < 8 by omega)
      rw [if_neg (show ¬ (8 : Int32) ≤ nI a from nI_ge (b := 8) (by omega) (by decide)), if_neg h8, if_neg (show ¬ (2147483648 : Int64) = 0 by decide), wy_r hy, if_neg (show ¬ (65536 : Int64) = 0 by decide), if_neg (show ¬ (32 : Int64) = 0 by decide), ri_c hr, lcg_is hX, lcg_bits (lcg_lt X), e1, cV_some, wy_r hy1, sq_w hs1, ri_c r1, t_next r1 hs1.2.1 hn (by omega), cI_some, en, nI_1]
      have go : ∀ c', ∃ a' i' h' g', pt_Ways_timesBy_50 y s sd tn p (lN (lcg X)) tm ti (nI (nxN n (ropU Q 5 (bt1 (lcg X / 65536 % 32))) V a)) c' (nI (i + 1)) h1 = pt_Ways_timesBy_138 y s sd tn p (lN (twL n V Q p f (lcg X) (nxN n (ropU Q 5 (bt1 (lcg X / 65536 % 32))) V a) c').1) tm ti a' (twL n V Q p f (lcg X) (nxN n (ropU Q 5 (bt1 (lcg X / 65536 % 32))) V a) c').2 i' h' ∧ RopeIs h' (y + 1) n (ropU Q 5 g') ∧ Frm h h' (y + 1) 8 := by
        intro c'
        obtain ⟨a2, i2, h2, g2, e2, r2, f2⟩ := ih (lcg X) (nxN n (ropU Q 5 (bt1 (lcg X / 65536 % 32))) V a) (i + 1) c' (bt1 (lcg X / 65536 % 32)) h1 (by omega) (lcg_lt X) n2 hy1 hs1 r1
        exact ⟨a2, i2, h2, g2, e2, r2, f1.trans f2⟩
      by_cases hc : c = 0
      · rw [if_pos hc, if_pos hc]
        by_cases hp : nI (nxN n (ropU Q 5 (bt1 (lcg X / 65536 % 32))) V a) = p
        · rw [if_pos hp, if_pos hp]
          exact go _
        · rw [if_neg hp, if_neg hp]
          exact go _
      · rw [if_neg hc, if_neg hc]
        exact go _
/-- how many of k walks come by -/
def tmL (n : Nat) (V Q : Nat → Nat → Int32) (a : Nat) (p : Int32) : Nat → Nat → Int32 → Int32
  | 0, _, t => t
  | k + 1, X, t => tmL n V Q a p k (twL n V Q p 8 X a (if nI a = p then 1 else 0)).1 (if (twL n V Q p 8 X a (if nI a = p then 1 else 0)).2 = 0 then t + 0 else t + 1)
theorem t_tm_loop {y s n a kk T : Nat} {V Q : Nat → Nat → Int32} {F S : Nat → Int32} (sd p : Int32) (hn : n ≤ 5) (hw : WallOk V) (hT : T ≤ 60) (ha : a ≤ 8) (hd : y + 11 ≤ s ∨ s + 21 ≤ y) : ∀ (k i X : Nat) (t : Int32) (x9 x10 x11 : Option Value) (g : Nat → Int32) (h : ab_H), i + k = T → X < 2 ^ 31 → WyAt h y kk F S → SQ h s V n Q a → RopeIs h (y + 1) n (ropU Q 5 g) → ∃ h', pt_Ways_timesBy_21 y s sd (nI T) p (lN X) t (nI i) x9 x10 x11 h = some (some (.int (tmL n V Q a p k X t)), h') ∧ RopeSh h' (y + 1) ∧ Frm h h' (y + 1) 8 := by
  intro k
  induction k with
  | zero =>
    intro i X t x9 x10 x11 g h hi hX hy hs hr
    rw [q_Ways_timesBy_21, if_pos (nI_le (by omega) (by omega))]
    exact ⟨h, rfl, ⟨_, _, hr⟩, Frm.refl _ _ _⟩
  | succ k ih =>
    intro i X t x9 x10 x11 g h hi hX hy hs hr
    have step : ∀ c, ∃ h', pt_Ways_timesBy_50 y s sd (nI T) p (lN X) t (nI i) (nI a) c 0 h = some (some (.int (tmL n V Q a p k (twL n V Q p 8 X a c).1 (if (twL n V Q p 8 X a c).2 = 0 then t + 0 else t + 1))), h') ∧ RopeSh h' (y + 1) ∧ Frm h h' (y + 1) 8 := by
      intro c
      obtain ⟨a1, i1, h1, g1, e1, r1, f1⟩ := t_tw_loop (Q := Q) sd (nI T) p t (nI i) hn hw hd 8 X a 0 c g h (by omega) hX ha hy hs hr
      rw [nI_0] at e1
      rw [e1, q_Ways_timesBy_138, nI_1]
      have hy1 := hy.frm f1 (by omega)
      have hs1 := hs.frm f1 (by omega)
      have hX1 := twL_lt n V Q p 8 X a c hX
      split
      · obtain ⟨h2, e2, r2, f2⟩ := ih (i + 1) (twL n V Q p 8 X a c).1 (t + 0) (some (.int a1)) (some (.int (twL n V Q p 8 X a c).2)) (some (.int i1)) g1 h1 (by omega) hX1 hy1 hs1 r1
        exact ⟨h2, e2, r2, f1.trans f2⟩
      · obtain ⟨h2, e2, r2, f2⟩ := ih (i + 1) (twL n V Q p 8 X a c).1 (t + 1) (some (.int a1)) (some (.int (twL n V Q p 8 X a c).2)) (some (.int i1)) g1 h1 (by omega) hX1 hy1 hs1 r1
        exact ⟨h2, e2, r2, f1.trans f2⟩
    rw [q_Ways_timesBy_21, if_neg (nI_ge (by omega) (by omega)), sq_a hs]
    simp only [tmL]
    by_cases hc : nI a = p
    · rw [if_pos hc, if_pos hc]
      exact step 1
    · rw [if_neg hc, if_neg hc]
      exact step 0
theorem t_timesBy {h : ab_H} {y s n a kk T X : Nat} {V Q : Nat → Nat → Int32} {F S : Nat → Int32} (p : Int32) (hy : WyAt h y kk F S) (hr : RopeSh h (y + 1)) (hs : SQ h s V n Q a) (hn : n ≤ 5) (hw : WallOk V) (hT : T ≤ 60) (ha : a ≤ 8) (hX : X < 2 ^ 31) (hd : y + 11 ≤ s ∨ s + 21 ≤ y) : ∃ h', fn_Ways_timesBy y s (nI X) (nI T) p h = some (some (.int (tmL n V Q a p T X 0)), h') ∧ RopeSh h' (y + 1) ∧ Frm h h' (y + 1) 8 := by
  obtain ⟨l, P, hr⟩ := hr
  obtain ⟨h1, e1, r1, f1⟩ := t_copy hr hs.2.2 (by omega) hn
  obtain ⟨h2, e2, r2, f2⟩ := t_tm_loop (nI X) p hn hw hT ha hd T 0 X 0 none none none (Q 5) h1 (by omega) hX (hy.frm f1 (by omega)) (hs.frm f1 (by omega)) (by rw [ropU_self]; exact r1)
  rw [nI_0] at e2
  rw [q_Ways_timesBy, wy_r hy, sq_r hs, ri_c hr, e1, cV_some, nI_l hX]
  exact ⟨h2, e2, r2, f1.trans f2⟩
