/-! Ways: the fewest sags -/
def bcE (x0 : Int32) : Int32 := ((((((((x0 - ((Int32.toUInt32 x0 >>> (Int32.toUInt32 (1 : Int32) &&& Int32.toUInt32 31)).toInt32 &&& (1431655765 : Int32))) &&& (858993459 : Int32)) + ((Int32.toUInt32 (x0 - ((Int32.toUInt32 x0 >>> (Int32.toUInt32 (1 : Int32) &&& Int32.toUInt32 31)).toInt32 &&& (1431655765 : Int32))) >>> (Int32.toUInt32 (2 : Int32) &&& Int32.toUInt32 31)).toInt32 &&& (858993459 : Int32))) + (Int32.toUInt32 (((x0 - ((Int32.toUInt32 x0 >>> (Int32.toUInt32 (1 : Int32) &&& Int32.toUInt32 31)).toInt32 &&& (1431655765 : Int32))) &&& (858993459 : Int32)) + ((Int32.toUInt32 (x0 - ((Int32.toUInt32 x0 >>> (Int32.toUInt32 (1 : Int32) &&& Int32.toUInt32 31)).toInt32 &&& (1431655765 : Int32))) >>> (Int32.toUInt32 (2 : Int32) &&& Int32.toUInt32 31)).toInt32 &&& (858993459 : Int32))) >>> (Int32.toUInt32 (4 : Int32) &&& Int32.toUInt32 31)).toInt32) &&& (252645135 : Int32)) + (Int32.toUInt32 (((((x0 - ((Int32.toUInt32 x0 >>> (Int32.toUInt32 (1 : Int32) &&& Int32.toUInt32 31)).toInt32 &&& (1431655765 : Int32))) &&& (858993459 : Int32)) + ((Int32.toUInt32 (x0 - ((Int32.toUInt32 x0 >>> (Int32.toUInt32 (1 : Int32) &&& Int32.toUInt32 31)).toInt32 &&& (1431655765 : Int32))) >>> (Int32.toUInt32 (2 : Int32) &&& Int32.toUInt32 31)).toInt32 &&& (858993459 : Int32))) + (Int32.toUInt32 (((x0 - ((Int32.toUInt32 x0 >>> (Int32.toUInt32 (1 : Int32) &&& Int32.toUInt32 31)).toInt32 &&& (1431655765 : Int32))) &&& (858993459 : Int32)) + ((Int32.toUInt32 (x0 - ((Int32.toUInt32 x0 >>> (Int32.toUInt32 (1 : Int32) &&& Int32.toUInt32 31)).toInt32 &&& (1431655765 : Int32))) >>> (Int32.toUInt32 (2 : Int32) &&& Int32.toUInt32 31)).toInt32 &&& (858993459 : Int32))) >>> (Int32.toUInt32 (4 : Int32) &&& Int32.toUInt32 31)).toInt32) &&& (252645135 : Int32)) >>> (Int32.toUInt32 (8 : Int32) &&& Int32.toUInt32 31)).toInt32) + (Int32.toUInt32 ((((((x0 - ((Int32.toUInt32 x0 >>> (Int32.toUInt32 (1 : Int32) &&& Int32.toUInt32 31)).toInt32 &&& (1431655765 : Int32))) &&& (858993459 : Int32)) + ((Int32.toUInt32 (x0 - ((Int32.toUInt32 x0 >>> (Int32.toUInt32 (1 : Int32) &&& Int32.toUInt32 31)).toInt32 &&& (1431655765 : Int32))) >>> (Int32.toUInt32 (2 : Int32) &&& Int32.toUInt32 31)).toInt32 &&& (858993459 : Int32))) + (Int32.toUInt32 (((x0 - ((Int32.toUInt32 x0 >>> (Int32.toUInt32 (1 : Int32) &&& Int32.toUInt32 31)).toInt32 &&& (1431655765 : Int32))) &&& (858993459 : Int32)) + ((Int32.toUInt32 (x0 - ((Int32.toUInt32 x0 >>> (Int32.toUInt32 (1 : Int32) &&& Int32.toUInt32 31)).toInt32 &&& (1431655765 : Int32))) >>> (Int32.toUInt32 (2 : Int32) &&& Int32.toUInt32 31)).toInt32 &&& (858993459 : Int32))) >>> (Int32.toUInt32 (4 : Int32) &&& Int32.toUInt32 31)).toInt32) &&& (252645135 : Int32)) + (Int32.toUInt32 (((((x0 - ((Int32.toUInt32 x0 >>> (Int32.toUInt32 (1 : Int32) &&& Int32.toUInt32 31)).toInt32 &&& (1431655765 : Int32))) &&& (858993459 : Int32)) + ((Int32.toUInt32 (x0 - ((Int32.toUInt32 x0 >>> (Int32.toUInt32 (1 : Int32) &&& Int32.toUInt32 31)).toInt32 &&& (1431655765 : Int32))) >>> (Int32.toUInt32 (2 : Int32) &&& Int32.toUInt32 31)).toInt32 &&& (858993459 : Int32))) + (Int32.toUInt32 (((x0 - ((Int32.toUInt32 x0 >>> (Int32.toUInt32 (1 : Int32) &&& Int32.toUInt32 31)).toInt32 &&& (1431655765 : Int32))) &&& (858993459 : Int32)) + ((Int32.toUInt32 (x0 - ((Int32.toUInt32 x0 >>> (Int32.toUInt32 (1 : Int32) &&& Int32.toUInt32 31)).toInt32 &&& (1431655765 : Int32))) >>> (Int32.toUInt32 (2 : Int32) &&& Int32.toUInt32 31)).toInt32 &&& (858993459 : Int32))) >>> (Int32.toUInt32 (4 : Int32) &&& Int32.toUInt32 31)).toInt32) &&& (252645135 : Int32)) >>> (Int32.toUInt32 (8 : Int32) &&& Int32.toUInt32 31)).toInt32) >>> (Int32.toUInt32 (16 : Int32) &&& Int32.toUInt32 31)).toInt32) &&& (63 : Int32))
def pcN (i : Nat) : Nat := i % 2 + i / 2 % 2 + i / 4 % 2 + i / 8 % 2 + i / 16 % 2
theorem bcE_is : ∀ i, i < 32 → bcE (nI i) = nI (pcN i) := by decide +kernel
theorem t_bits {i : Nat} (hi : i < 32) (h : ab_H) : fn_Int_bitCount (nI i) h = some (some (.int (nI (pcN i))), h) := by
  rw [← bcE_is i hi]
  exact q_Int_bitCount (nI i) h
theorem or_i : ∀ m, m < 32 → ∀ k, k < 32 → nI m ||| nI k = nI (m ||| k) ∧ m ||| k < 32 := by decide +kernel
theorem nI_m1 {x : Nat} (h : x + 1 < 2 ^ 31) : nI (x + 1) + (-1 : Int32) = nI x := by
  rw [← nI_1, Int32.add_assoc]
  show nI x + 0 = nI x
  exact Int32.add_zero _
theorem nI_s1 {x : Nat} (h : x + 1 < 2 ^ 31) : nI (x + 1) - (1 : Int32) = nI x := by
  rw [← nI_1]
  exact Int32.add_sub_cancel _ _
/-- the least of the sets i, i + 1 .. -/
def lfL (n : Nat) (V Q : Nat → Nat → Int32) (F : Nat → Int32) (m a : Nat) : Nat → Nat → Int32 → Int32
  | 0, _, acc => acc
  | k + 1, i, acc => lfL n V Q F m a k (i + 1) (if nI i &&& nI m = 0 then (if ((nI (pcN i) + F (nxN n (ropU Q 5 (bt1 (i ||| m))) V a)) <<< ((5 : Int32) &&& 31)) + nI i < acc then ((nI (pcN i) + F (nxN n (ropU Q 5 (bt1 (i ||| m))) V a)) <<< ((5 : Int32) &&& 31)) + nI i else acc) else acc)
theorem lfL_cong {n m a : Nat} {V Q : Nat → Nat → Int32} {F G : Nat → Int32} (hw : WallOk V) (ha : a < 8) (e : ∀ i, i < 9 → F i = G i) : ∀ (k i : Nat) (acc : Int32), lfL n V Q F m a k i acc = lfL n V Q G m a k i acc
  | 0, _, _ => rfl
  | k + 1, i, acc => by
    unfold lfL
    rw [e (nxN n (ropU Q 5 (bt1 (i ||| m))) V a) (by have := (nx_is (n := n) (Q := ropU Q 5 (bt1 (i ||| m))) hw ha).2.2; omega), lfL_cong hw ha e k (i + 1)]
theorem t_least_loop {y w n a m kk : Nat} {V Q : Nat → Nat → Int32} {F S : Nat → Int32} (hn : n ≤ 5) (hw : WallOk V) (ha : a < 8) (hm : m < 32) (hd : y + 11 ≤ w ∨ w + 5 ≤ y) : ∀ (k i : Nat) (acc : Int32) (x6 : Option Value) (g : Nat → Int32) (h : ab_H), i + k = 2 ^ n → WyAt h y kk F S → WallIs h w V → RopeIs h (y + 1) n (ropU Q 5 g) → ∃ h' g', pt_Ways_leastFrom_8 y w (nI a) (nI m) acc (nI i) x6 h = some (some (.int (lfL n V Q F m a k i acc)), h') ∧ RopeIs h' (y + 1) n (ropU Q 5 g') ∧ Frm h h' (y + 1) 8 := by
  have h32 := pow_le32 hn
  intro k
  induction k with
  | zero =>
    intro i acc x6 g h hi hy hwl hr
    rw [q_Ways_leastFrom_8, wy_r hy, ri_n hr, shl_pow n hn, if_pos (nI_le (by omega) (by omega))]
    exact ⟨h, g, rfl, hr, Frm.refl _ _ _⟩
  | succ k ih =>
    intro i acc x6 g h hi hy hwl hr
    rw [q_Ways_leastFrom_8, wy_r hy, ri_n hr, shl_pow n hn, if_neg (nI_ge (by omega) (by omega)), nI_1]
    unfold lfL
    by_cases hx : nI i &&& nI m = 0
    · obtain ⟨oe, ol⟩ := or_i i (by omega) m hm
      obtain ⟨h1, e1, r1, f1⟩ := t_setSags hr hn (m := i ||| m) (by omega)
      rw [ropU_ropU] at r1
      have hy1 := hy.frm f1 (by omega)
      have hw1 := hwl.frm f1 (by omega)
      obtain ⟨en, n1, n2⟩ := nx_is (n := n) (Q := ropU Q 5 (bt1 (i ||| m))) hw ha
      rw [if_pos hx, if_pos hx, wy_r hy, ri_c hr, oe, e1, cV_some, t_bits (by omega), cI_some, wy_f hy1, wy_r hy1, ri_c r1, t_next r1 hw1 hn ha, cI_some, en, wy_lf hy1 (by omega)]
      obtain ⟨h2, g2, e2, r2, f2⟩ := ih (i + 1) (if ((nI (pcN i) + F (nxN n (ropU Q 5 (bt1 (i ||| m))) V a)) <<< ((5 : Int32) &&& 31)) + nI i < acc then ((nI (pcN i) + F (nxN n (ropU Q 5 (bt1 (i ||| m))) V a)) <<< ((5 : Int32) &&& 31)) + nI i else acc) (some (.int (nI (pcN i) + F (nxN n (ropU Q 5 (bt1 (i ||| m))) V a)))) (bt1 (i ||| m)) h1 (by omega) hy1 hw1 r1
      exact ⟨h2, g2, e2, r2, f1.trans f2⟩
    · rw [if_neg hx, if_neg hx]
      exact ih (i + 1) acc x6 g h (by omega) hy hwl hr
theorem t_least {h : ab_H} {y w n a m kk : Nat} {V Q : Nat → Nat → Int32} {F S : Nat → Int32} {g : Nat → Int32} (hn : n ≤ 5) (hw : WallOk V) (ha : a < 8) (hm : m < 32) (hd : y + 11 ≤ w ∨ w + 5 ≤ y) (hy : WyAt h y kk F S) (hwl : WallIs h w V) (hr : RopeIs h (y + 1) n (ropU Q 5 g)) : ∃ h' g', fn_Ways_leastFrom y w (nI a) (nI m) h = some (some (.int (lfL n V Q F m a (2 ^ n) 0 32000)), h') ∧ RopeIs h' (y + 1) n (ropU Q 5 g') ∧ Frm h h' (y + 1) 8 := by
  obtain ⟨h', g', e, r, f⟩ := t_least_loop (Q := Q) hn hw ha hm hd (2 ^ n) 0 32000 none g h (by omega) hy hwl hr
  rw [nI_0] at e
  rw [q_Ways_leastFrom]
  exact ⟨h', g', e, r, f⟩
theorem t_fill_loop {y n : Nat} (x : Int32) (hn : n < 200) : ∀ (k i : Nat) (F : Nat → Int32) (h : ab_H), i + k = n → ab_get h y = some (.inl (0, n, F)) → (∀ j, j < i → F j = x) → ∃ h' G, pt_Arr_fill_5 y x (nI i) (nI n) h = some (none, h') ∧ h' = ab_set h y (.inl (0, n, G)) ∧ (∀ j, j < n → G j = x) := by
  intro k
  induction k with
  | zero =>
    intro i F h hi hg hF
    rw [q_Arr_fill_5, if_pos (nI_le (by omega) (by omega))]
    exact ⟨h, F, rfl, (set_self hg).symm, fun j hj => hF j (by omega)⟩
  | succ k ih =>
    intro i F h hi hg hF
    rw [q_Arr_fill_5, if_neg (nI_ge (by omega) (by omega)), iast_at hg (by omega) (by omega), nI_1]
    obtain ⟨h', G, e, e2, hG⟩ := ih (i + 1) (upd F i x) _ (by omega) (get_same _ _ _) (fun j hj => by
      simp only [upd]
      split
      · rfl
      · exact hF j (by omega))
    rw [set_set] at e2
    exact ⟨h', G, e, e2, hG⟩
