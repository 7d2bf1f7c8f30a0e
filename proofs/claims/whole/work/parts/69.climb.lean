/-! both sides: climber, note, forget, type, clear -/
section
variable {ro : Nat → Option ab_Ce}
def adV (n : Nat) (k w s q : Int32) : Nat → Int32 := fun j => if j = 0 then nI n else if j = 1 then k else if j = 2 then w else if j = 3 then s else if j = 4 then q else 0
theorem s_add {h : ab_H} {r n : Nat} {R : Nat → Nat → Int32} (hr : RopeAt h r n R) (hn : n < 5) (k w s q : Int32) : ∃ h', fn_Rope_add r k w s q h = some (none, h') ∧ RopeAt h' r (n + 1) (fun j => upd (R j) n (adV n k w s q j)) ∧ Frm h h' r 8 := by
  rw [q_Rope_add, rp_n hr, if_pos (show nI n < (5 : Int32) from nI_lt (b := 5) hn (by decide)), rp_r0 hr, rp_n hr, rp_n hr, iast_at hr.2.1 hn (by decide)]
  have hr1 := rp_s0 hr (upd (R 0) n (nI n))
  rw [rp_r1 hr1, rp_n hr1, iast_at hr1.2.2.1 hn (by decide), show ((ropU R 0 (upd (R 0) n (nI n)))) 1 = R 1 from rfl]
  have hr2 := rp_s1 hr1 (upd (R 1) n k)
  rw [rp_r2 hr2, rp_n hr2, iast_at hr2.2.2.2.1 hn (by decide), show ((ropU (ropU R 0 (upd (R 0) n (nI n))) 1 (upd (R 1) n k))) 2 = R 2 from rfl]
  have hr3 := rp_s2 hr2 (upd (R 2) n w)
  rw [rp_r3 hr3, rp_n hr3, iast_at hr3.2.2.2.2.1 hn (by decide), show (ropU (ropU (ropU R 0 (upd (R 0) n (nI n))) 1 (upd (R 1) n k)) 2 (upd (R 2) n w)) 3 = R 3 from rfl]
  have hr4 := rp_s3 hr3 (upd (R 3) n s)
  rw [rp_r4 hr4, rp_n hr4, iast_at hr4.2.2.2.2.2.1 hn (by decide), show (ropU (ropU (ropU (ropU R 0 (upd (R 0) n (nI n))) 1 (upd (R 1) n k)) 2 (upd (R 2) n w)) 3 (upd (R 3) n s)) 4 = R 4 from rfl]
  have hr5 := rp_s4 hr4 (upd (R 4) n q)
  rw [rp_r5 hr5, rp_n hr5, iast_at hr5.2.2.2.2.2.2.1 hn (by decide), show (ropU (ropU (ropU (ropU (ropU R 0 (upd (R 0) n (nI n))) 1 (upd (R 1) n k)) 2 (upd (R 2) n w)) 3 (upd (R 3) n s)) 4 (upd (R 4) n q)) 5 = R 5 from rfl]
  have hr6 := rp_s5 hr5 (upd (R 5) n 0)
  rw [rp_r6 hr6, rp_n hr6, iast_at hr6.2.2.2.2.2.2.2 hn (by decide), show (ropU (ropU (ropU (ropU (ropU (ropU R 0 (upd (R 0) n (nI n))) 1 (upd (R 1) n k)) 2 (upd (R 2) n w)) 3 (upd (R 3) n s)) 4 (upd (R 4) n q)) 5 (upd (R 5) n 0)) 6 = R 6 from rfl]
  have hr7 := rp_s6 hr6 (upd (R 6) n 0)
  rw [rp_n hr7, rp_pn hr7, nI_1]
  refine ⟨_, rfl, (rp_sn hr7).to (fun j hj => ?_), ?_⟩
  · rcases (show j = 0 ∨ j = 1 ∨ j = 2 ∨ j = 3 ∨ j = 4 ∨ j = 5 ∨ j = 6 by omega) with rfl | rfl | rfl | rfl | rfl | rfl | rfl <;> rfl
  · exact ((((((((Frm.set _ _ _).wide (by omega) (by omega)).trans ((Frm.set _ _ _).wide (by omega) (by omega))).trans ((Frm.set _ _ _).wide (by omega) (by omega))).trans ((Frm.set _ _ _).wide (by omega) (by omega))).trans ((Frm.set _ _ _).wide (by omega) (by omega))).trans ((Frm.set _ _ _).wide (by omega) (by omega))).trans ((Frm.set _ _ _).wide (by omega) (by omega))).trans ((Frm.set _ _ _).wide (by omega) (by omega))
def lcF (g : Nat → Int32) (n : Nat) (k w s q : Int32) : Nat → Int32 := upd (upd (upd (upd (upd g (38 + 4 * n + 0) k) (38 + 4 * n + 1) w) (38 + 4 * n + 2) s) (38 + 4 * n + 3) q) 0 (nI (n + 1))
theorem lcF_0 (g : Nat → Int32) (n : Nat) (k w s q : Int32) : lcF g n k w s q 0 = nI (n + 1) := up_at _ _ _
theorem lcF_ne (g : Nat → Int32) (n : Nat) (k w s q : Int32) {i : Nat} (h0 : i ≠ 0) (h : i < 38 + 4 * n ∨ 38 + 4 * n + 4 ≤ i) : lcF g n k w s q i = g i := by
  unfold lcF
  rw [up_ne _ _ h0, up_ne _ _ (by omega), up_ne _ _ (by omega), up_ne _ _ (by omega), up_ne _ _ (by omega)]
theorem lcF_a (g : Nat → Int32) (n : Nat) (k w s q : Int32) : lcF g n k w s q (38 + 4 * n + 0) = k ∧ lcF g n k w s q (38 + 4 * n + 1) = w ∧ lcF g n k w s q (38 + 4 * n + 2) = s ∧ lcF g n k w s q (38 + 4 * n + 3) = q := by
  unfold lcF
  refine ⟨?_, ?_, ?_, ?_⟩
  · rw [up_ne _ _ (by omega), up_ne _ _ (by omega), up_ne _ _ (by omega), up_ne _ _ (by omega), up_at]
  · rw [up_ne _ _ (by omega), up_ne _ _ (by omega), up_ne _ _ (by omega), up_at]
  · rw [up_ne _ _ (by omega), up_ne _ _ (by omega), up_at]
  · rw [up_ne _ _ (by omega), up_at]
theorem m_layClimber {h : ab_H} {r len n : Nat} {g : Nat → Int32} (hg : ab_get h r = some (.inl (0, len, g))) (hl : 70 ≤ len) (hl2 : len ≤ 200) (hn : n < 5) (e0 : g 0 = nI n) (k w s q : Int32) : fn_M_layClimber r k w s q h = some (none, ab_set h r (.inl (0, len, lcF g n k w s q))) := by
  have l0 : ∀ {T : Type} {h : ab_H} {g : Nat → Int32} (hg : ab_get h r = some (.inl (0, len, g))) (K : Int32 → Option T), ab_iald h r (0 : Int32) K = K (g 0) := fun hg K => iald_at hg (p := 0) (by omega) (by omega) K
  have s0 : ∀ {T : Type} {h : ab_H} {g : Nat → Int32} (hg : ab_get h r = some (.inl (0, len, g))) (y : Int32) (K : ab_H → Option T), ab_iast h r (0 : Int32) y K = K (ab_set h r (.inl (0, len, upd g 0 y))) := fun hg y K => iast_at hg (p := 0) (by omega) (by omega) y K
  rw [q_M_layClimber, l0 hg, e0, ix_38, nI_a0, nI_1, nI_a2, nI_a3, iast_at hg (by omega) (by omega), iast_at (get_same _ _ _) (by omega) (by omega), set_set, iast_at (get_same _ _ _) (by omega) (by omega), set_set, iast_at (get_same _ _ _) (by omega) (by omega), set_set, l0 (get_same _ _ _), s0 (get_same _ _ _), set_set, up_ne _ _ (by omega), up_ne _ _ (by omega), up_ne _ _ (by omega), up_ne _ _ (by omega), e0, nI_1]
  rfl
theorem m_layPitch {h : ab_H} {r len p : Nat} {g : Nat → Int32} (hg : ab_get h r = some (.inl (0, len, g))) (hl : 70 ≤ len) (hl2 : len ≤ 200) (hp : p < 8) (a b c : Int32) : fn_M_layPitch r (nI p) a b c h = some (none, ab_set h r (.inl (0, len, upd (upd (upd g (6 + 4 * p + 1) a) (6 + 4 * p + 2) b) (6 + 4 * p + 3) c))) := by
  rw [q_M_layPitch, ix_6, nI_1, nI_a2, nI_a3, iast_at hg (by omega) (by omega), iast_at (get_same _ _ _) (by omega) (by omega), set_set, iast_at (get_same _ _ _) (by omega) (by omega), set_set]
theorem bt_hi {s n : Nat} (h : s < 2 ^ n) : bt1 s n = 0 := by
  unfold bt1
  rw [Nat.testBit_lt_two_pow h]
  rfl
/-- the rope with one more -/
theorem re_add {f g : Nat → Int32} {n sg rs : Nat} {R : Nat → Nat → Int32} (hr : REq n R (RF f sg rs)) (hn : n < 5) (hsg : sg < 2 ^ n) (hrs : rs < 2 ^ n) (k w s q : Int32) (ge : ∀ i, i ≠ 0 → i ≠ 5 → g i = lcF f n k w s q i) : REq (n + 1) (fun j => upd (R j) n (adV n k w s q j)) (RF g sg rs) := by
  intro j hj i hi
  show upd (R j) n (adV n k w s q j) i = RF g sg rs j i
  obtain ⟨a0, a1, a2, a3⟩ := lcF_a f n k w s q
  by_cases hin : i = n
  · subst hin
    rw [up_at]
    match j, hj with
    | 0, _ => rfl
    | 1, _ => exact a0.symm.trans (ge _ (by omega) (by omega)).symm
    | 2, _ => exact a1.symm.trans (ge _ (by omega) (by omega)).symm
    | 3, _ => exact a2.symm.trans (ge _ (by omega) (by omega)).symm
    | 4, _ => exact a3.symm.trans (ge _ (by omega) (by omega)).symm
    | 5, _ => exact (bt_hi hsg).symm
    | 6, _ => exact (bt_hi hrs).symm
    | k + 7, hj => omega
  · rw [up_ne _ _ hin, hr j hj i (by omega)]
    have ee : ∀ y, y < 4 → f (38 + 4 * i + y) = g (38 + 4 * i + y) := fun y hy => by
      rw [ge _ (by omega) (by omega), lcF_ne _ _ _ _ _ _ (by omega) (by omega)]
    match j, hj with
    | 0, _ => rfl
    | 1, _ => exact ee 0 (by decide)
    | 2, _ => exact ee 1 (by decide)
    | 3, _ => exact ee 2 (by decide)
    | 4, _ => exact ee 3 (by decide)
    | 5, _ => rfl
    | 6, _ => rfl
    | k + 7, hj => omega
theorem inV_01 (x lo hi : Int32) : inV x lo hi = 0 ∨ inV x lo hi = 1 := by
  unfold inV
  split
  · exact Or.inl rfl
  · split
    · exact Or.inl rfl
    · exact Or.inr rfl
section
variable {h : ab_H} {x m : Nat}
theorem j_climber (J : JR ro h x m) (k w s q : Int32) : JI ro (fn_X_climber x k w s q h) (fun y => fn_M_climber m k w s q y) x m := by
  obtain ⟨A, I, u, v, L, n, a, sg, rs, nn, un, W⟩ := J
  have G := W.gd
  have c1 := W.cell
  have hs := W.sc.sq
  have en : A 0 0 = nI n := G.1.2.1
  rcases inV_d k 0 5 (by omega) (by omega) with e | ⟨e, k', -, hk, rfl⟩
  · obtain ⟨h1, h2, e1, e2, e3, e4⟩ := j_bad W (-2)
    refine JI.mk (r := -2) ?_ e2 ?_ e4
    · rw [q_X_climber, x_wn k 0 5 (by decide) (by decide), cI_some, e, if_pos rfl, xx_c c1, e1, cI_some]
    · rw [q_M_climber, m_wn k 0 5 (by decide) (by decide), cI_some, e, if_pos rfl, mc, e3, cI_some]
  · rcases inV_d w 1 30 (by omega) (by omega) with e' | ⟨e', w', hw1, hw2, rfl⟩
    · obtain ⟨h1, h2, e1, e2, e3, e4⟩ := j_bad W (-2)
      refine JI.mk (r := -2) ?_ e2 ?_ e4
      · rw [q_X_climber, x_wn _ 0 5 (by decide) (by decide), cI_some, e, if_neg z10, x_wn w 1 30 (by decide) (by decide), cI_some, e', if_pos rfl, xx_c c1, e1, cI_some]
      · rw [q_M_climber, m_wn _ 0 5 (by decide) (by decide), cI_some, e, if_neg z10, m_wn w 1 30 (by decide) (by decide), cI_some, e', if_pos rfl, mc, e3, cI_some]
    · rcases inV_d s 0 9 (by omega) (by omega) with e2 | ⟨e2, s', -, hs', rfl⟩
      · obtain ⟨h1, h2, g1, g2, g3, g4⟩ := j_bad W (-2)
        refine JI.mk (r := -2) ?_ g2 ?_ g4
        · rw [q_X_climber, x_wn _ 0 5 (by decide) (by decide), cI_some, e, if_neg z10, x_wn _ 1 30 (by decide) (by decide), cI_some, e', if_neg z10, x_wn s 0 9 (by decide) (by decide), cI_some, e2, if_pos rfl, xx_c c1, g1, cI_some]
        · rw [q_M_climber, m_wn _ 0 5 (by decide) (by decide), cI_some, e, if_neg z10, m_wn _ 1 30 (by decide) (by decide), cI_some, e', if_neg z10, m_wn s 0 9 (by decide) (by decide), cI_some, e2, if_pos rfl, mc, g3, cI_some]
      · rcases inV_d q 0 255 (by omega) (by omega) with e3 | ⟨e3, q', -, hq, rfl⟩
        · obtain ⟨h1, h2, g1, g2, g3, g4⟩ := j_bad W (-2)
          refine JI.mk (r := -2) ?_ g2 ?_ g4
          · rw [q_X_climber, x_wn _ 0 5 (by decide) (by decide), cI_some, e, if_neg z10, x_wn _ 1 30 (by decide) (by decide), cI_some, e', if_neg z10, x_wn _ 0 9 (by decide) (by decide), cI_some, e2, if_neg z10, x_wn q 0 255 (by decide) (by decide), cI_some, e3, if_pos rfl, xx_c c1, g1, cI_some]
          · rw [q_M_climber, m_wn _ 0 5 (by decide) (by decide), cI_some, e, if_neg z10, m_wn _ 1 30 (by decide) (by decide), cI_some, e', if_neg z10, m_wn _ 0 9 (by decide) (by decide), cI_some, e2, if_neg z10, m_wn q 0 255 (by decide) (by decide), cI_some, e3, if_pos rfl, mc, g3, cI_some]
        · by_cases h5 : n < 5
          · obtain ⟨Wl, R, N, U, s1, s2, s3, s4, s5⟩ := W.sc
            obtain ⟨h1, e4, t1, f1⟩ := s_add s1.2.2.1 h5 (nI k') (nI w') (nI s') (nI q')
            have s1' := sc_uR s1 f1 t1
            have c2 : ab_get h1 x = some (.inr (10, xFs x u v (A 3))) := by rw [f1.2 _ (by omega)]; exact c1
            have f2 := Frm.set h1 (x + 1 + 17) (.inr (6, [.int (nI 0), .ref (x + 1 + 17 + 1), .ref (x + 1 + 17 + 2), .ref (x + 1 + 17 + 3)]))
            have s2' := sc_uU s1' (f2.wide (by omega) (by omega)) (un_sn s1'.2.2.2.2 0)
            have c3 : ab_get (ab_set h1 (x + 1 + 17) (.inr (6, [.int (nI 0), .ref (x + 1 + 17 + 1), .ref (x + 1 + 17 + 2), .ref (x + 1 + 17 + 3)]))) x = some (.inr (10, xFs x u v (A 3))) := by rw [f2.2 _ (by omega)]; exact c2
            have f3 : Frm h (ab_set h1 (x + 1 + 17) (.inr (6, [.int (nI 0), .ref (x + 1 + 17 + 1), .ref (x + 1 + 17 + 2), .ref (x + 1 + 17 + 3)]))) (x + 1) 21 := (f1.wide (by omega) (by omega)).trans (f2.wide (by omega) (by omega))
            have eX : fn_X_climber x (nI k') (nI w') (nI s') (nI q') h = some (some (.int (nI n)), ab_set h1 (x + 1 + 17) (.inr (6, [.int (nI 0), .ref (x + 1 + 17 + 1), .ref (x + 1 + 17 + 2), .ref (x + 1 + 17 + 3)]))) := by
              rw [q_X_climber, x_wn _ 0 5 (by decide) (by decide), cI_some, e, if_neg z10, x_wn _ 1 30 (by decide) (by decide), cI_some, e', if_neg z10, x_wn _ 0 9 (by decide) (by decide), cI_some, e2, if_neg z10, x_wn _ 0 255 (by decide) (by decide), cI_some, e3, if_neg z10, xx_0 c1, sc_r s1, ri_n hs.2.2, if_pos (show nI n < (5 : Int32) from nI_lt (b := 5) h5 (by decide)), xx_0 c1, sc_r s1, rp_c s1.2.2.1, e4, cV_some, xx_0 c2, sc_u s1', show (0 : Int32) = nI 0 from nI_0.symm, un_p s1'.2.2.2.2, xx_0 c3, sc_r s2', rp_n s2'.2.2.1]
              show some (some (Value.int (nI (n + 1) - 1)), _) = _
              rw [nI_pred]
            have em := W.mid f3 (by omega)
            generalize ab_set h1 (x + 1 + 17) (.inr (6, [.int (nI 0), .ref (x + 1 + 17 + 1), .ref (x + 1 + 17 + 2), .ref (x + 1 + 17 + 3)])) = h2 at s2' f3 eX em
            have g0 : ∀ i, i ≠ 0 → i ≠ 5 → upd (lcF (A 0) n (nI k') (nI w') (nI s') (nI q')) 5 0 i = lcF (A 0) n (nI k') (nI w') (nI s') (nI q') i := fun i _ h => up_ne _ _ h
            have g1 : ∀ i, i ≠ 0 → i ≠ 5 → (i < 38 + 4 * n ∨ 38 + 4 * n + 4 ≤ i) → upd (lcF (A 0) n (nI k') (nI w') (nI s') (nI q')) 5 0 i = A 0 i := fun i h0 h5 h => (up_ne _ _ h5).trans (lcF_ne _ _ _ _ _ _ h0 h)
            have g2 : upd (lcF (A 0) n (nI k') (nI w') (nI s') (nI q')) 5 0 0 = nI (n + 1) := (up_ne _ _ (by omega)).trans (lcF_0 _ _ _ _ _ _)
            have g3 : upd (lcF (A 0) n (nI k') (nI w') (nI s') (nI q')) 5 0 5 = nI 0 := (up_at _ _ _).trans nI_0.symm
            have hM := m_layClimber (h := mH h2 m A I u v) (r := m + 1) (n := n) mg_1 (by omega) (by omega) h5 en (nI k') (nI w') (nI s') (nI q')
            rw [ma_s0] at hM
            have hM2 : fn_M_climber m (nI k') (nI w') (nI s') (nI q') (mH h2 m A I u v) = some (some (.int (nI n)), mH h2 m (ropU A 0 (upd (lcF (A 0) n (nI k') (nI w') (nI s') (nI q')) 5 0)) I u v) := by
              rw [q_M_climber, m_wn _ 0 5 (by decide) (by decide), cI_some, e, if_neg z10, m_wn _ 1 30 (by decide) (by decide), cI_some, e', if_neg z10, m_wn _ 0 9 (by decide) (by decide), cI_some, e2, if_neg z10, m_wn _ 0 255 (by decide) (by decide), cI_some, e3, if_neg z10, mc, m_many, cI_some, en, if_neg (show ¬ nI n = (5 : Int32) from fun z => by have := (nI_eq (b := 5) (by omega) (by decide)).mp z; omega), mr_0, hM, cV_some, mr_0, ma_0_5, ropU_ropU, ropU_at, mc, m_many, cI_some, ropU_at, g2, nI_pred]
            generalize upd (lcF (A 0) n (nI k') (nI w') (nI s') (nI q')) 5 0 = g at g0 g1 g2 g3 hM2
            have hpow : 2 ^ n ≤ 2 ^ (n + 1) := Nat.pow_le_pow_right (by decide) (by omega)
            obtain ⟨F0, F1, F2, F3, F4, F5, F6, F7⟩ := G.1
            have G' : Gd g (n + 1) a sg rs nn 0 := ⟨⟨by omega, g2, F2, (g1 1 (by omega) (by omega) (by omega)).trans F3, by omega, (g1 2 (by omega) (by omega) (by omega)).trans F5, by omega, (g1 3 (by omega) (by omega) (by omega)).trans F7⟩, G.2.1.cong (g1 4 (by omega) (by omega) (by omega)) (fun k h1 h2 => g1 k (by omega) (by omega) (by omega)), wo_cong G.2.2.1 (fun k h1 h2 => g1 k (by omega) (by omega) (by omega)), by omega, g3, fun i hi => absurd hi (Nat.not_lt_zero i)⟩
            exact JI.mk eX em hM2 (W.now f3 ⟨_, _, _, _, s2', we_cong s2 (fun k h1 h2 => g1 k (by omega) (by omega) (by omega)), re_add s3 h5 F4 F6 _ _ _ _ g0, nf_cong G.2.1.1 s4 (fun k h1 h2 => g1 k (by omega) (by omega) (by omega)), fun j hj i hi => absurd hi (Nat.not_lt_zero i)⟩ G' (KQ.refl _ I))
          · have h5' : n = 5 := by have := G.1.1; omega
            obtain ⟨h1, h2, g1, g2, g3, g4⟩ := j_full W
            refine JI.mk (r := -4) ?_ g2 ?_ g4
            · rw [q_X_climber, x_wn _ 0 5 (by decide) (by decide), cI_some, e, if_neg z10, x_wn _ 1 30 (by decide) (by decide), cI_some, e', if_neg z10, x_wn _ 0 9 (by decide) (by decide), cI_some, e2, if_neg z10, x_wn _ 0 255 (by decide) (by decide), cI_some, e3, if_neg z10, xx_0 c1, sq_r hs, ri_n hs.2.2, if_neg (show ¬ nI n < (5 : Int32) from nI_nlt (b := 5) (by omega) (by omega)), xx_c c1, g1, cI_some]
            · rw [q_M_climber, m_wn _ 0 5 (by decide) (by decide), cI_some, e, if_neg z10, m_wn _ 1 30 (by decide) (by decide), cI_some, e', if_neg z10, m_wn _ 0 9 (by decide) (by decide), cI_some, e2, if_neg z10, m_wn _ 0 255 (by decide) (by decide), cI_some, e3, if_neg z10, mc, m_many, cI_some, en, if_pos (show nI n = (5 : Int32) by rw [h5']; rfl), mc, g3, cI_some]
theorem j_forget (J : JR ro h x m) : JI ro (fn_X_forget x h) (fun k => fn_M_forget m k) x m := by
  obtain ⟨A, I, u, v, L, n, a, sg, rs, nn, un, W⟩ := J
  have G := W.gd
  have c1 := W.cell
  have e4 : A 0 4 = nI nn := G.2.1.2.1
  obtain ⟨Wl, R, N, U, s1, s2, s3, s4, s5⟩ := W.sc
  have f1 := Frm.set h (x + 1 + 14) (.inr (1, [.int (nI 0), .ref (x + 1 + 14 + 1), .ref (x + 1 + 14 + 2)]))
  have s1' := sc_uN s1 (f1.wide (by omega) (by omega)) (nt_sn s1.2.2.2.1 0)
  have g0 : ∀ k, k ≠ 4 → upd (A 0) 4 0 k = A 0 k := fun k hk => up_ne _ _ hk
  have G' : Gd (upd (A 0) 4 0) n a sg rs 0 un := ⟨G.1.cong (fun k hk => g0 k (by omega)), ⟨by omega, (up_at _ _ _).trans nI_0.symm, fun i hi => absurd hi (Nat.not_lt_zero i)⟩, wo_cong G.2.2.1 (fun k h1 h2 => g0 k (by omega)), G.2.2.2.1, (g0 5 (by omega)).trans G.2.2.2.2.1, un_cong G.2.2.2.1 G.2.2.2.2.2 (fun k h1 h2 => g0 k (by omega))⟩
  refine JI.mk (r := nI nn) ?_ (W.mid f1 (by omega)) ?_ (W.now (f1.wide (by omega) (by omega)) ⟨_, _, _, _, s1', we_cong s2 (fun k h1 h2 => g0 k (by omega)), re_cong s3 G.1.1 (fun k h1 h2 => g0 k (by omega)), fun j hj i hi => absurd hi (Nat.not_lt_zero i), uf_cong G.2.2.2.1 s5 (fun k h1 h2 => g0 k (by omega))⟩ G' (KQ.refl _ I))
  · rw [q_X_forget, xx_0 c1, sc_t s1, nt_n s1.2.2.2.1, xx_0 c1, sc_t s1, show (0 : Int32) = nI 0 from nI_0.symm, nt_p s1.2.2.2.1]
  · rw [q_M_forget, mr_0, ml_0_4, e4, mr_0, ma_0_4]
theorem j_note (J : JR ro h x m) (p c : Int32) : JI ro (fn_X_note x p c h) (fun k => fn_M_note m p c k) x m := by
  obtain ⟨A, I, u, v, L, n, a, sg, rs, nn, un, W⟩ := J
  have G := W.gd
  have c1 := W.cell
  have hs := W.sc.sq
  have en : A 0 0 = nI n := G.1.2.1
  have e4 : A 0 4 = nI nn := G.2.1.2.1
  have h6 := G.2.1.1
  have mw : ∀ h : ab_H, fn_M_in c.toInt64 (-1 : Int64) (Int32.toInt64 (nI n - 1)) h = some (some (.int (inV c (-1) (nI n - 1))), h) := fun h => m_in c (-1) (nI n - 1) (by decide) rfl h
  rcases inV_d p 0 7 (by omega) (by omega) with e | ⟨e, q, -, hq, rfl⟩
  · obtain ⟨h1, h2, e1, e2, e3, e4⟩ := j_bad W (-2)
    refine JI.mk (r := -2) ?_ e2 ?_ e4
    · rw [q_X_note, x_isPitch, cI_some, e, if_pos rfl, xx_c c1, e1, cI_some]
    · rw [q_M_note, m_isPitch, cI_some, e, if_pos rfl, mc, e3, cI_some]
  · rcases inV_01 c (-1) (nI n - 1) with e' | e'
    · obtain ⟨h1, h2, e1, e2, e3, e4⟩ := j_bad W (-2)
      refine JI.mk (r := -2) ?_ e2 ?_ e4
      · rw [q_X_note, x_isPitch, cI_some, e, if_neg z10, xx_0 c1, sq_r hs, ri_n hs.2.2, x_in, cI_some, e', if_pos rfl, xx_c c1, e1, cI_some]
      · rw [q_M_note, m_isPitch, cI_some, e, if_neg z10, mc, m_many, cI_some, en, mw, cI_some, e', if_pos rfl, mc, e3, cI_some]
    · by_cases hn6 : nn < 6
      · obtain ⟨Wl, R, N, U, s1, s2, s3, s4, s5⟩ := W.sc
        obtain ⟨h1, t0, t1, f1⟩ := s_noteAdd s1.2.2.2.1 hn6 (nI q) c
        have s1' := sc_uN s1 f1 t1
        have c2 : ab_get h1 x = some (.inr (10, xFs x u v (A 3))) := by rw [f1.2 _ (by omega)]; exact c1
        have g0 : ∀ k, k ≠ 4 → k ≠ 58 + 2 * nn → k ≠ 58 + 2 * nn + 1 → upd (upd (upd (A 0) (58 + 2 * nn) (nI q)) (58 + 2 * nn + 1) c) 4 (nI (nn + 1)) k = A 0 k := fun k h1 h2 h3 => by
          rw [up_ne _ _ h1, up_ne _ _ h3, up_ne _ _ h2]
        have g1 : upd (upd (upd (A 0) (58 + 2 * nn) (nI q)) (58 + 2 * nn + 1) c) 4 (nI (nn + 1)) 4 = nI (nn + 1) := up_at _ _ _
        have g2 : upd (upd (upd (A 0) (58 + 2 * nn) (nI q)) (58 + 2 * nn + 1) c) 4 (nI (nn + 1)) (58 + 2 * nn) = nI q := by
          rw [up_ne _ _ (by omega), up_ne _ _ (by omega), up_at]
        have g3 : upd (upd (upd (A 0) (58 + 2 * nn) (nI q)) (58 + 2 * nn + 1) c) 4 (nI (nn + 1)) (58 + 2 * nn + 1) = c := by
          rw [up_ne _ _ (by omega), up_at]
        have hM : ∀ h1 : ab_H, fn_M_note m (nI q) c (mH h1 m A I u v) = some (some (.int (nI (nn + 1))), mH h1 m (ropU A 0 (upd (upd (upd (A 0) (58 + 2 * nn) (nI q)) (58 + 2 * nn + 1) c) 4 (nI (nn + 1)))) I u v) := fun h1 => by
          rw [q_M_note, m_isPitch, cI_some, e, if_neg z10, mc, m_many, cI_some, en, mw, cI_some, e', if_neg z10, mr_0, ml_0_4, e4, if_neg (show ¬ nI nn = (6 : Int32) from fun z => by have := (nI_eq (b := 6) (by omega) (by decide)).mp z; omega), mr_0, mr_0, ml_0_4, e4, ix_58, ma_0 (by omega), mr_0, mr_0, ml_0_4, ropU_at, up_ne _ _ (by omega), e4, ix_58, nI_1, ma_0 (by omega), mr_0, ml_0_4, ropU_ropU, ropU_at, ropU_at, up_ne _ _ (by omega), up_ne _ _ (by omega), e4, nI_1, ma_0_4, ropU_ropU, ropU_at, mr_0, ml_0_4, ropU_at, up_at]
        generalize upd (upd (upd (A 0) (58 + 2 * nn) (nI q)) (58 + 2 * nn + 1) c) 4 (nI (nn + 1)) = g at g0 g1 g2 g3 hM
        have G' : Gd g n a sg rs (nn + 1) un := by
          refine ⟨G.1.cong (fun k hk => g0 k (by omega) (by omega) (by omega)), ⟨by omega, g1, fun i hi => ?_⟩, wo_cong G.2.2.1 (fun k h1 h2 => g0 k (by omega) (by omega) (by omega)), G.2.2.2.1, (g0 5 (by omega) (by omega) (by omega)).trans G.2.2.2.2.1, un_cong G.2.2.2.1 G.2.2.2.2.2 (fun k h1 h2 => g0 k (by omega) (by omega) (by omega))⟩
          by_cases hin : i = nn
          · subst hin
            exact ⟨q, by omega, g2⟩
          · obtain ⟨p, hp, ep⟩ := G.2.1.2.2 i (by omega)
            exact ⟨p, hp, (g0 _ (by omega) (by omega) (by omega)).trans ep⟩
        refine JI.mk (r := nI (nn + 1)) ?_ (W.mid f1 (by omega)) (hM h1) (W.now (f1.wide (by omega) (by omega)) ⟨_, _, _, _, s1', we_cong s2 (fun k h1 h2 => g0 k (by omega) (by omega) (by omega)), re_cong s3 G.1.1 (fun k h1 h2 => g0 k (by omega) (by omega) (by omega)), ?_, uf_cong G.2.2.2.1 s5 (fun k h1 h2 => g0 k (by omega) (by omega) (by omega))⟩ G' (KQ.refl _ I))
        · rw [q_X_note, x_isPitch, cI_some, e, if_neg z10, xx_0 c1, sq_r hs, ri_n hs.2.2, x_in, cI_some, e', if_neg z10, xx_0 c1, sc_t s1, nt_n s1.2.2.2.1, if_pos (show nI nn < (6 : Int32) from nI_lt (b := 6) hn6 (by decide)), xx_0 c1, sc_t s1, nt_c s1.2.2.2.1, t0, cV_some, xx_0 c2, sc_t s1', nt_n s1'.2.2.2.1]
        · intro j hj i hi
          show addN N nn (nI q) c j i = g (58 + 2 * i + j)
          have hi : i < nn + 1 := hi
          unfold addN
          by_cases hin : i = nn
          · subst hin
            match j, hj with
            | 0, _ => exact (up_at _ _ _).trans g2.symm
            | 1, _ => exact (up_at _ _ _).trans g3.symm
            | k + 2, hj => omega
          · rw [g0 _ (by omega) (by omega) (by omega)]
            match j, hj with
            | 0, _ => exact (up_ne _ _ hin).trans (s4 0 (by decide) i (by omega))
            | 1, _ => exact (up_ne _ _ hin).trans (s4 1 (by decide) i (by omega))
            | k + 2, hj => omega
      · have hn6' : nn = 6 := by omega
        obtain ⟨Wl, R, N, U, s1, s2, s3, s4, s5⟩ := W.sc
        obtain ⟨h1, h2, g1, g2, g3, g4⟩ := j_full W
        refine JI.mk (r := -4) ?_ g2 ?_ g4
        · rw [q_X_note, x_isPitch, cI_some, e, if_neg z10, xx_0 c1, sq_r hs, ri_n hs.2.2, x_in, cI_some, e', if_neg z10, xx_0 c1, sc_t s1, nt_n s1.2.2.2.1, if_neg (show ¬ nI nn < (6 : Int32) from nI_nlt (b := 6) (by omega) (by omega)), xx_c c1, g1, cI_some]
        · rw [q_M_note, m_isPitch, cI_some, e, if_neg z10, mc, m_many, cI_some, en, mw, cI_some, e', if_neg z10, mr_0, ml_0_4, e4, if_pos (show nI nn = (6 : Int32) by rw [hn6']; rfl), mc, g3, cI_some]
end
end
