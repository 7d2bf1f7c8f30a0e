/-! both sides: slips -/
section
variable {ro : Nat → Option ab_Ce}
theorem sli_lN (sl : Nat) {cc : Nat} (hc : cc ≤ 10) : ∀ (k i p : Nat), ∃ q, sliL sl (nI cc) k i (lN p) = lN q ∧ q ≤ p * 10 ^ k
  | 0, _, p => ⟨p, rfl, by rw [Nat.pow_zero, Nat.mul_one]; exact Nat.le_refl _⟩
  | k + 1, i, p => by
    have e1 : (10 : Int32) - nI cc = nI (10 - cc) := pk_sub (a := 10) hc
    have hh : ∀ d, d ≤ 10 → p * d * 10 ^ k ≤ p * 10 ^ (k + 1) := fun d hd => by
      rw [Nat.pow_succ, Nat.mul_comm (10 ^ k) 10, ← Nat.mul_assoc]
      exact Nat.mul_le_mul_right _ (Nat.mul_le_mul_left _ hd)
    rw [sliL, e1, nI_l (by omega), nI_l (by omega), lN_mul, lN_mul]
    split
    · obtain ⟨q, e, h⟩ := sli_lN sl hc k (i + 1) (p * cc)
      exact ⟨q, e, Nat.le_trans h (hh cc hc)⟩
    · obtain ⟨q, e, h⟩ := sli_lN sl hc k (i + 1) (p * (10 - cc))
      exact ⟨q, e, Nat.le_trans h (hh (10 - cc) (by omega))⟩
theorem cas_lN (n r : Nat) (Q V : Nat → Nat → Int32) (a : Nat) (x : Int32) {cc : Nat} (hc : cc ≤ 10) : ∀ (k i p : Nat), ∃ q, casL n r Q V a x (nI cc) k i (lN p) = lN q ∧ q ≤ p + k * 10 ^ n
  | 0, _, p => ⟨p, rfl, by omega⟩
  | k + 1, i, p => by
    obtain ⟨z, e1, h1⟩ := sli_lN i hc n 0 1
    have e1 : sliL i (nI cc) n 0 1 = lN z := e1
    rw [Nat.one_mul] at h1
    have hk : (k + 1) * 10 ^ n = k * 10 ^ n + 10 ^ n := by rw [Nat.succ_mul]
    rw [casL, e1, lN_add]
    split
    · obtain ⟨q, e, h⟩ := cas_lN n r Q V a x hc k (i + 1) (p + z)
      exact ⟨q, e, by omega⟩
    · obtain ⟨q, e, h⟩ := cas_lN n r Q V a x hc k (i + 1) p
      exact ⟨q, e, by omega⟩
theorem x_gcd (x0 x2 : Int64) (h : ab_H) : ∀ (k p q i : Nat) (x9 x10 : Option Value), q < 2 ^ k → i + 2 * k < 1000 → p < 2 ^ 63 → q < 2 ^ 63 → pt_X_commonDivisor_9 x0 x2 (lN p) (lN q) (nI i) x9 x10 h = some (some (.long (lN (Nat.gcd p q))), h) := by
  intro k
  induction k with
  | zero =>
    intro p q i x9 x10 hq hi hp hq6
    have e : q = 0 := by omega
    subst e
    rw [q_X_commonDivisor_9, if_neg (show ¬ (1000 : Int32) ≤ nI i from nI_ge (b := 1000) (by omega) (by decide)), if_pos (show lg_cmp (lN 0) 0 = 0 by decide), Nat.gcd_zero_right]
  | succ k ih =>
    intro p q i x9 x10 hq hi hp hq6
    have z : ∀ {y : Nat}, y < 2 ^ 63 → ((lN y = 0) ↔ y = 0) := fun hy => pk_lEQ (b := 0) hy (by decide)
    by_cases h0 : q = 0
    · subst h0
      rw [q_X_commonDivisor_9, if_neg (show ¬ (1000 : Int32) ≤ nI i from nI_ge (b := 1000) (by omega) (by decide)), if_pos (show lg_cmp (lN 0) 0 = 0 by decide), Nat.gcd_zero_right]
    · have hne : ¬ lN q = 0 := fun e => h0 ((z hq6).mp e)
      have hr : p % q < q := Nat.mod_lt _ (by omega)
      have hgg : Nat.gcd p q = Nat.gcd q (p % q) := by
        rw [Nat.gcd_comm p q, Nat.gcd_rec q p, Nat.gcd_comm]
      rw [q_X_commonDivisor_9, if_neg (show ¬ (1000 : Int32) ≤ nI i from nI_ge (b := 1000) (by omega) (by decide)), if_neg (fun e => hne ((lg_cmp_eq _ _).mp e)), if_neg hne, pk_lRem hp (by omega) hq6, nI_1, hgg]
      by_cases h1 : p % q = 0
      · rw [h1, q_X_commonDivisor_9, if_neg (show ¬ (1000 : Int32) ≤ nI (i + 1) from nI_ge (b := 1000) (by omega) (by decide)), if_pos (show lg_cmp (lN 0) 0 = 0 by decide), Nat.gcd_zero_right]
      · have hne1 : ¬ lN (p % q) = 0 := fun e => h1 ((z (by omega)).mp e)
        have hgg1 : Nat.gcd q (p % q) = Nat.gcd (p % q) (q % (p % q)) := by
          rw [Nat.gcd_comm q (p % q), Nat.gcd_rec (p % q) q, Nat.gcd_comm]
        have hlt : q % (p % q) < p % q := Nat.mod_lt _ (by omega)
        have hge : p % q ≤ p % q * (q / (p % q)) := Nat.le_mul_of_pos_right _ (Nat.div_pos (by omega) (by omega))
        have hdm := Nat.div_add_mod q (p % q)
        rw [q_X_commonDivisor_9, if_neg (show ¬ (1000 : Int32) ≤ nI (i + 1) from nI_ge (b := 1000) (by omega) (by decide)), if_neg (fun e => hne1 ((lg_cmp_eq _ _).mp e)), if_neg hne1, pk_lRem hq6 (by omega) (by omega), nI_1, hgg1]
        exact ih (p % q) (q % (p % q)) (i + 1 + 1) _ _ (by rw [Nat.pow_succ] at hq; omega) (by omega) (by omega) (by omega)
theorem x_common {p q : Nat} (hp : p < 2 ^ 63) (hq : q < 2 ^ 60) (h : ab_H) : fn_X_commonDivisor (lN p) (lN q) h = some (some (.long (lN (Nat.gcd p q))), h) := by
  have := x_gcd (lN p) (lN q) h 60 p q 0 none none hq (by omega) hp (by omega)
  rw [nI_0] at this
  rw [q_X_commonDivisor, this]
section
variable {h : ab_H} {x m : Nat}
theorem j_slips (J : JR ro h x m) (c o : Int32) : JI ro (fn_X_slips x c o h) (fun k => fn_M_slips m c o k) x m := by
  obtain ⟨A, I, u, v, L, n, a, sg, rs, nn, un, W⟩ := J
  have G := W.gd
  have hs := W.sc.sq
  have c1 := W.cell
  have hn := G.1.1
  have ea : A 0 1 = nI a := G.1.2.2.2.1
  have en : A 0 0 = nI n := G.1.2.1
  rcases inV_c c n G.1.1 with e | ⟨e, p, hp, rfl⟩
  · obtain ⟨h1, h2, e1, e2, e3, e4⟩ := j_bad W (-2)
    refine JI.mk (r := -2) ?_ e2 ?_ e4
    · rw [q_X_slips, xx_c W.cell, x_isC W, cI_some, e, if_pos rfl, xx_c W.cell, e1, cI_some]
    · rw [q_M_slips, mc, m_isC G, cI_some, e, if_pos rfl, mc, e3, cI_some]
  · rcases inV_d o 0 10 (by omega) (by omega) with e' | ⟨e', q, -, hq, rfl⟩
    · obtain ⟨h1, h2, e1, e2, e3, e4⟩ := j_bad W (-2)
      refine JI.mk (r := -2) ?_ e2 ?_ e4
      · rw [q_X_slips, xx_c W.cell, x_isC W, cI_some, e, if_neg z10, x_wn o 0 10 (by decide) (by decide), cI_some, e', if_pos rfl, xx_c W.cell, e1, cI_some]
      · rw [q_M_slips, mc, m_isC G, cI_some, e, if_neg z10, m_wn o 0 10 (by decide) (by decide), cI_some, e', if_pos rfl, mc, e3, cI_some]
    · by_cases h8 : a < 8
      · obtain ⟨h1, e1, r1, f1⟩ := t_casesOf (v := x + 89) (nI p) (nI q) W.qs.1 W.qs.2.1 hs hn h8 G.1.2.2.2.2.2.2.1 (fun i hi => rfl) (by omega)
        obtain ⟨s, es, hs2⟩ := cas_lN n rs (RF (A 0) sg rs) (WF (A 0)) a (nI p) hq (2 ^ n) 0 0
        have es : casL n rs (RF (A 0) sg rs) (WF (A 0)) a (nI p) (nI q) (2 ^ n) 0 0 = lN s := es
        have h10 : 10 ^ n ≤ 100000 := Nat.pow_le_pow_right (n := 10) (by decide) hn
        have h10' : 0 < 10 ^ n := Nat.pow_pos (by decide)
        have hs3 : s ≤ 3200000 := by
          have h32 := pow_le32 hn
          have := Nat.mul_le_mul h32 h10
          omega
        have c2 : ab_get h1 x = some (.inr (10, xFs x u v (A 3))) := (W.2.2.2.2.2.1.frm f1 (by omega)).1
        -- the class
        have loop : ∀ (d i : Nat), i + d = n → pt_X_slips_47 x (nI p) (nI q) (lN (10 ^ i)) (nI i) h = pt_X_slips_47 x (nI p) (nI q) (lN (10 ^ n)) (nI n) h := by
          intro d
          induction d with
          | zero =>
            intro i hi
            have ei : i = n := by omega
            subst ei
            rfl
          | succ d ih =>
            intro i hi
            rw [q_X_slips_47, xx_0 c1, sq_r hs, ri_n hs.2.2, if_neg (nI_ge (by omega) (by omega)), lN_m10, nI_1]
            exact ih (i + 1) (by omega)
        have hl := loop n 0 (by omega)
        rw [nI_0, Nat.pow_zero] at hl
        have hg : 0 < Nat.gcd s (10 ^ n) := Nat.gcd_pos_of_pos_right _ h10'
        have hgl : Nat.gcd s (10 ^ n) ≤ 10 ^ n := Nat.gcd_le_right _ h10'
        have g1 : ¬ lN (Nat.gcd s (10 ^ n)) = 0 := fun z => by
          have := (pk_lEQ (b := 0) (by omega) (by decide)).mp z
          omega
        have g2 : ¬ lg_cmp (lN (Nat.gcd s (10 ^ n))) 0 ≤ 0 := fun z => by
          have := (pk_lLE (b := 0) (by omega) (by decide)).mp ((lg_cmp_le _ _).mp z)
          omega
        have c3 : ab_get (ab_set h1 x (.inr (10, xFs x (lN s / lN (Nat.gcd s (10 ^ n))) v (A 3)))) x = some (.inr (10, xFs x (lN s / lN (Nat.gcd s (10 ^ n))) v (A 3))) := get_same _ _ _
        have eX : fn_X_slips x (nI p) (nI q) h = some (some (.int 1), ab_set h1 x (.inr (10, xFs x (lN s / lN (Nat.gcd s (10 ^ n))) (lN (10 ^ n) / lN (Nat.gcd s (10 ^ n))) (A 3)))) := by
          have hl2 : pt_X_slips_47 x (nI p) (nI q) (1 : Int64) (0 : Int32) h = pt_X_slips_47 x (nI p) (nI q) (lN (10 ^ n)) (nI n) h := hl
          rw [q_X_slips, xx_c c1, x_isC W, cI_some, e, if_neg z10, x_wn _ 0 10 (by decide) (by decide), cI_some, e', if_neg z10, xx_0 c1, sq_a hs, if_pos (show nI a < (8 : Int32) from nI_lt (b := 8) h8 (by decide)), hl2, q_X_slips_47, xx_0 c1, sq_r hs, ri_n hs.2.2, if_pos (nI_le (Nat.le_refl _) (by omega)), xx_5 c1, xx_0 c1, vo_c W.qs.1, e1, cL_some, es, xx_c c2, q_X_setFraction, x_common (by omega) (by omega), cL_some, if_neg g2, if_neg g1, xx_p9 c2, if_neg g1, xx_p10 c3, set_set, cV_some]
        have f2 := Frm.set h1 x (.inr (10, xFs x (lN s / lN (Nat.gcd s (10 ^ n))) (lN (10 ^ n) / lN (Nat.gcd s (10 ^ n))) (A 3)))
        have X1 := (W.2.2.2.2.2.1.frm f1 (by omega)).own (lN s / lN (Nat.gcd s (10 ^ n))) (lN (10 ^ n) / lN (Nat.gcd s (10 ^ n))) (A 3)
        rw [ropU_self] at X1
        have Q1 := (W.qs.vo f1 r1).frm f2 (by omega)
        have em : ab_set h1 x (.inr (10, xFs x (lN s / lN (Nat.gcd s (10 ^ n))) (lN (10 ^ n) / lN (Nat.gcd s (10 ^ n))) (A 3))) = mH (ab_set h1 x (.inr (10, xFs x (lN s / lN (Nat.gcd s (10 ^ n))) (lN (10 ^ n) / lN (Nat.gcd s (10 ^ n))) (A 3)))) m A I u v := mH_keep (W.mid f1 (by omega)) f2 (by have := W.2.1; omega)
        have hh1 : Hk ro (ab_set h1 x (.inr (10, xFs x (lN s / lN (Nat.gcd s (10 ^ n))) (lN (10 ^ n) / lN (Nat.gcd s (10 ^ n))) (A 3)))) x := (W.2.2.1.frm f1 (by omega)).frm f2 (by omega)
        generalize ab_set h1 x (.inr (10, xFs x (lN s / lN (Nat.gcd s (10 ^ n))) (lN (10 ^ n) / lN (Nat.gcd s (10 ^ n))) (A 3))) = h2 at eX X1 Q1 em hh1
        -- the reference
        obtain ⟨A1, I1, e2, l1, k1⟩ := G.1.lay (h := h2) (m := m) (u := u) (v := v) (I := I) rfl
        have en1 : A1 0 0 = nI n := by rw [l1.1]; exact en
        have e3 := m_every (h := h2) (m := m) (u := u) (v := v) (I := I1) (nI p) (nI q) 0 hn en1 none none none n 0 (by omega)
        obtain ⟨I2, e4, k2⟩ := m_slip_loop (h := h2) (m := m) (u := u) (v := v) G.1 h8 (nI p) (nI q) (lN (10 ^ n)) (2 ^ n) 0 0 rs none none none I1 (by omega) l1
        rw [nI_0] at e3 e4
        rw [es, m_fraction (by omega) (by omega) h10', cV_some] at e4
        have e3' : pt_M_slips_55 m (nI p) (nI q) (0 : Int64) (1 : Int64) (0 : Int32) none none none (mH h2 m A1 I1 u v) = pt_M_slips_81 m (nI p) (nI q) 0 (lN (10 ^ n)) 0 none none none (mH h2 m A1 I1 u v) := e3
        have kk := k1.trans k2
        refine JI.mk eX em ?_ (JW.end W.2.1 hh1 (kk.2.2.2.2.2.trans W.2.2.2.1) W.2.2.2.2.1 (X1.kq kk) Q1 (by rw [kk.1]; exact G))
        rw [q_M_slips, mc, m_isC G, cI_some, e, if_neg z10, m_wn _ 0 10 (by decide) (by decide), cI_some, e', if_neg z10, mr_0, ml_0_1, ea, if_neg (show ¬ nI a = (8 : Int32) from fun z => by have := (nI_eq (b := 8) (by omega) (by decide)).mp z; omega), mc, e2, cV_some, e3', e4]
      · have h8' : a = 8 := by have := G.1.2.2.1; omega
        obtain ⟨h1, h2, e1, e2, e3, e4⟩ := j_no W
        refine JI.mk (r := -3) ?_ e2 ?_ e4
        · rw [q_X_slips, xx_c W.cell, x_isC W, cI_some, e, if_neg z10, x_wn _ 0 10 (by decide) (by decide), cI_some, e', if_neg z10, xx_0 W.cell, sq_a hs, if_neg (show ¬ nI a < (8 : Int32) from nI_nlt (b := 8) (by omega) (by omega)), xx_c W.cell, e1, cI_some]
        · rw [q_M_slips, mc, m_isC G, cI_some, e, if_neg z10, m_wn _ 0 10 (by decide) (by decide), cI_some, e', if_neg z10, mr_0, ml_0_1, ea, if_pos (show nI a = (8 : Int32) by rw [h8']; rfl), mc, e3, cI_some]
end
end
