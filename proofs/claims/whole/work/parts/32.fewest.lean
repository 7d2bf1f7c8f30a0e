/-! Ways: by which sags they come to a pitch -/
theorem alen_at {T : Type} {h : ab_H} {a k n : Nat} {f : Nat → Int32} (e : ab_get h a = some (.inl (k, n, f))) (K : Int32 → Option T) : ab_alen h a K = K (nI n) := by
  unfold ab_alen
  rw [e]
  rfl
theorem t_fill {h : ab_H} {y n : Nat} {F : Nat → Int32} (x : Int32) (hn : n < 200) (hg : ab_get h y = some (.inl (0, n, F))) : ∃ G, fn_Arr_fill y x h = some (none, ab_set h y (.inl (0, n, G))) ∧ (∀ j, j < n → G j = x) := by
  obtain ⟨h', G, e1, e2, hG⟩ := t_fill_loop x hn n 0 F h (by omega) hg (fun j hj => absurd hj (Nat.not_lt_zero j))
  rw [nI_0] at e1
  refine ⟨G, ?_, hG⟩
  rw [q_Arr_fill, alen_at hg, e1, e2]
/-- how many sags are yet to come, from each pitch, the j below p being known -/
def fsF (n : Nat) (V Q : Nat → Nat → Int32) (p : Nat) : Nat → Nat → Int32
  | 0 => upd (fun _ => 1000) p 0
  | j + 1 => upd (fsF n V Q p j) (p - 1 - j) (lfL n V Q (fsF n V Q p j) 0 (p - 1 - j) (2 ^ n) 0 32000 >>> ((5 : Int32) &&& 31))
def fewV (n : Nat) (V Q : Nat → Nat → Int32) (a m p : Nat) : Int32 := if lfL n V Q (fsF n V Q p (p - 1 - a)) m a (2 ^ n) 0 32000 >>> ((5 : Int32) &&& 31) < 1000 then lfL n V Q (fsF n V Q p (p - 1 - a)) m a (2 ^ n) 0 32000 else -1
theorem t_few_loop {y s n a m p kk : Nat} {V Q : Nat → Nat → Int32} (hn : n ≤ 5) (hw : WallOk V) (hp : p ≤ 8) (ha : a < p) (hm : m < 2 ^ n) (hb : ∀ i, i < n → Q 5 i = bt1 m i) (hd : y + 11 ≤ s ∨ s + 21 ≤ y) : ∀ (k j : Nat) (F S : Nat → Int32) (g : Nat → Int32) (h : ab_H), j + k = p - 1 - a → (∀ i, i < 9 → F i = fsF n V Q p j i) → WyAt h y kk F S → SQ h s V n Q a → RopeIs h (y + 1) n (ropU Q 5 g) → ∃ h' F', pt_Ways_fewestSags_52 y s (nI p) (nI (p - 1 - j)) h = some (some (.int (fewV n V Q a m p)), h') ∧ WyAt h' y kk F' S ∧ RopeSh h' (y + 1) ∧ Frm h h' y 11 := by
  have h32 := pow_le32 hn
  intro k
  induction k with
  | zero =>
    intro j F S g h hj hF hy hs hr
    have ej : j = p - 1 - a := by omega
    obtain ⟨h1, g1, e1, r1, f1⟩ := t_least (Q := Q) (m := m) hn hw (show a < 8 by omega) (by omega) (show y + 11 ≤ s + 1 ∨ s + 1 + 5 ≤ y by omega) hy hs.2.1 hr
    rw [lfL_cong hw (by omega) hF, ej] at e1
    rw [q_Ways_fewestSags_52, sq_a hs, if_pos (nI_le (by omega) (by omega)), sq_w hs, sq_a hs, sq_r hs, ri_c hs.2.2, t_sagBits hs.2.2 hn hm hb, cI_some, wy_c hy, e1, cI_some]
    refine ⟨h1, F, ?_, hy.frm f1 (by omega), ⟨_, _, r1⟩, f1.wide (by omega) (by omega)⟩
    unfold fewV
    split <;> rfl
  | succ k ih =>
    intro j F S g h hj hF hy hs hr
    obtain ⟨h1, g1, e1, r1, f1⟩ := t_least (Q := Q) (m := 0) hn hw (show p - 1 - j < 8 by omega) (by omega) (show y + 11 ≤ s + 1 ∨ s + 1 + 5 ≤ y by omega) hy hs.2.1 hr
    rw [lfL_cong hw (by omega) hF, nI_0] at e1
    have hy1 := hy.frm f1 (by omega)
    have hs1 := hs.frm f1 (by omega)
    have hy2 := wy_uf hy1 (upd F (p - 1 - j) (lfL n V Q (fsF n V Q p j) 0 (p - 1 - j) (2 ^ n) 0 32000 >>> ((5 : Int32) &&& 31)))
    have f2 := Frm.set h1 (y + 9) (.inl (0, 9, upd F (p - 1 - j) (lfL n V Q (fsF n V Q p j) 0 (p - 1 - j) (2 ^ n) 0 32000 >>> ((5 : Int32) &&& 31))))
    obtain ⟨h3, F3, e3, hy3, r3, f3⟩ := ih (j + 1) _ S g1 _ (by omega) (fun i hi => by
      show upd F _ _ i = upd (fsF n V Q p j) _ _ i
      simp only [upd]
      split
      · rfl
      · exact hF i hi) hy2 (hs1.frm f2 (by omega)) (r1.frm f2 (by omega))
    refine ⟨h3, F3, ?_, hy3, r3, ((f1.wide (by omega) (by omega)).trans (f2.wide (by omega) (by omega))).trans f3⟩
    rw [q_Ways_fewestSags_52, sq_a hs, if_neg (nI_ge (by omega) (by omega)), wy_f hy, sq_w hs, wy_c hy, e1, cI_some, wy_af hy1 (by omega), show p - 1 - j = p - 1 - (j + 1) + 1 by omega, nI_m1 (by omega), ← show p - 1 - j = p - 1 - (j + 1) + 1 by omega]
    exact e3
theorem t_fewest {h : ab_H} {y s n a m p kk : Nat} {V Q : Nat → Nat → Int32} {F S : Nat → Int32} (hy : WyAt h y kk F S) (hr : RopeSh h (y + 1)) (hs : SQ h s V n Q a) (hn : n ≤ 5) (hw : WallOk V) (hp : p ≤ 8) (ha : a ≤ 8) (hm : m < 2 ^ n) (hb : ∀ i, i < n → Q 5 i = bt1 m i) (hd : y + 11 ≤ s ∨ s + 21 ≤ y) : ∃ h' F', fn_Ways_fewestSags y s (nI p) h = some (some (.int (if p < a then -1 else if p = a then 0 else fewV n V Q a m p)), h') ∧ WyAt h' y kk F' S ∧ RopeSh h' (y + 1) ∧ Frm h h' y 11 := by
  by_cases h1 : p < a
  · refine ⟨h, F, ?_, hy, hr, Frm.refl _ _ _⟩
    rw [if_pos h1, q_Ways_fewestSags, sq_a hs, if_neg (nI_ge (by omega) (by omega))]
  · by_cases h2 : p = a
    · refine ⟨h, F, ?_, hy, hr, Frm.refl _ _ _⟩
      rw [if_neg h1, if_pos h2, h2, q_Ways_fewestSags, sq_a hs, if_pos (nI_le (by omega) (by omega)), sq_a hs, if_pos rfl]
    · obtain ⟨l, P, hr⟩ := hr
      obtain ⟨h3, e3, r3, f3⟩ := t_copy hr hs.2.2 (by omega) hn
      have hy3 := hy.frm f3 (by omega)
      have hs3 := hs.frm f3 (by omega)
      obtain ⟨G, e4, hG⟩ := t_fill 1000 (by decide) hy3.2.1
      have hy4 := wy_uf hy3 G
      have hy5 := wy_uf hy4 (upd G p 0)
      have f4 := Frm.set h3 (y + 9) (.inl (0, 9, G))
      have f5 := Frm.set (ab_set h3 (y + 9) (.inl (0, 9, G))) (y + 9) (.inl (0, 9, upd G p 0))
      obtain ⟨h6, F6, e6, hy6, r6, f6⟩ := t_few_loop hn hw hp (show a < p by omega) hm hb hd (p - 1 - a) 0 (upd G p 0) S (Q 5) _ (by omega) (fun i hi => by
        show upd G p 0 i = upd (fun _ => 1000) p 0 i
        simp only [upd]
        split
        · rfl
        · exact hG i hi) hy5 ((hs3.frm f4 (by omega)).frm f5 (by omega)) (by rw [ropU_self]; exact (r3.frm f4 (by omega)).frm f5 (by omega))
      refine ⟨h6, F6, ?_, hy6, r6, ((f3.wide (by omega) (by omega)).trans (f4.wide (by omega) (by omega))).trans ((f5.wide (by omega) (by omega)).trans f6)⟩
      have ne : ¬ nI p = nI a := fun e => h2 (by
        have := congrArg Int32.toNatClampNeg e
        rw [nI_clamp (by omega), nI_clamp (by omega)] at this
        exact this)
      rw [if_neg h1, if_neg h2, q_Ways_fewestSags, sq_a hs, if_pos (nI_le (by omega) (by omega)), sq_a hs, if_neg ne, wy_r hy, sq_r hs, ri_c hr, e3, cV_some, wy_f hy3, e4, cV_some, wy_f hy4, wy_af hy4 (by omega)]
      rw [Nat.sub_zero] at e6
      obtain ⟨q, hq⟩ : ∃ q, p = q + 1 := ⟨p - 1, by omega⟩
      have eq : nI p - (1 : Int32) = nI (p - 1) := by
        rw [hq, nI_s1 (by omega)]
        rfl
      rw [eq]
      exact e6
