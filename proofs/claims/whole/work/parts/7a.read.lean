/-! both sides: read -/
section
variable {ro : Nat → Option ab_Ce}
theorem Fr2.split {h h1 : ab_H} {x s : Nat} (f : Fr2 h h1 x s) : ∃ h0, Frm h h0 s 21 ∧ Frm h0 h1 x 2 := by
  refine ⟨(h.1, fun k => if s ≤ k ∧ k < s + 21 then h1.2 k else h.2 k), ⟨rfl, fun k hk => ?_⟩, ⟨f.1, fun k hk => ?_⟩⟩
  · show (if s ≤ k ∧ k < s + 21 then h1.2 k else h.2 k) = h.2 k
    rw [if_neg (by omega)]
  · show h1.2 k = (if s ≤ k ∧ k < s + 21 then h1.2 k else h.2 k)
    by_cases hs : s ≤ k ∧ k < s + 21
    · rw [if_pos hs]
    · rw [if_neg hs]
      exact f.2 k (by omega) hk
section
variable {h h1 : ab_H} {x m : Nat} {A B : Nat → Nat → Int32} {I J : Nat → Int32} {u v : Int64} {L n a sg rs nn un : Nat}
/-- a text that has a fault leaves all as it was -/
theorem JW.rd0 (W : JW ro h x m A I u v L n a sg rs nn un) (f : Fr2 h h1 (x + 87) (x + 22)) (T : TxIs h1 (x + 87) L (A 10)) (S : Shp h1 (x + 22)) (k : KQ A I B J) : h1 = mH h1 m A I u v ∧ JR ro (mH h1 m B J u v) x m := by
  obtain ⟨h0, f1, f2⟩ := f.split
  have em := mH_keep (W.mid f1 (by omega)) f2 (by have := W.2.1; omega)
  refine ⟨em, ?_⟩
  obtain ⟨w1, w2, w3, w4, w5, ⟨x1, x2, x3, x4, x5⟩, w7, w8⟩ := W
  have X : XB h1 x A L u v n a sg rs nn un := ⟨by rw [f2.2 _ (by omega), f1.2 _ (by omega)]; exact x1, (x2.frm f1 (by omega)).frm f2 (by omega), S, (x4.frm f1 (by omega)).frm f2 (by omega), T⟩
  refine JW.end w2 ((w3.frm f1 (by omega)).frm f2 (by omega)) (k.2.2.2.2.2.trans w4) w5 (X.kq k) ((w7.frm f1 (by omega)).frm f2 (by omega)) ?_
  rw [k.1]
  exact w8
/-- a text that is read takes the place of the scene -/
theorem JW.rd1 {h2 : ab_H} {n' : Nat} (W : JW ro h x m A I u v L n a sg rs nn un) (f : Fr2 h h1 (x + 87) (x + 22)) (g : Frm h1 h2 (x + 1) 21) (T : TxIs h2 (x + 87) L (A 10)) (S : Shp h2 (x + 22)) (N : ScIs h2 (x + 1) (B 0) n' 0 0 0 0 0) (G : Gd (B 0) n' 0 0 0 0 0) (hJ : J 16 = nI L) (k : ∀ j, j ≠ 0 → j ≠ 11 → j ≠ 12 → B j = A j) : h2 = mH h2 m A I u v ∧ JR ro (mH h2 m B J u v) x m := by
  obtain ⟨h0, f1, f2⟩ := f.split
  have em := mH_keep (mH_keep (W.mid f1 (by omega)) f2 (by have := W.2.1; omega)) g (by have := W.2.1; omega)
  refine ⟨em, ?_⟩
  obtain ⟨w1, w2, w3, w4, w5, ⟨x1, x2, x3, x4, x5⟩, w7, w8⟩ := W
  have X : XB h2 x B L u v n' 0 0 0 0 0 := by
    unfold XB
    rw [k 3 (by decide) (by decide) (by decide), k 1 (by decide) (by decide) (by decide), k 2 (by decide) (by decide) (by decide), k 10 (by decide) (by decide) (by decide)]
    exact ⟨by rw [g.2 _ (by omega), f2.2 _ (by omega), f1.2 _ (by omega)]; exact x1, N, S, ((x4.frm f1 (by omega)).frm f2 (by omega)).frm g (by omega), T⟩
  exact JW.end w2 (((w3.frm f1 (by omega)).frm f2 (by omega)).frm g (by omega)) hJ w5 X (((w7.frm f1 (by omega)).frm f2 (by omega)).frm g (by omega)) G
end
theorem kq_of {A B : Nat → Nat → Int32} {I J : Nat → Int32} {L : Nat} (k : ∀ j, j ≠ 11 → j ≠ 12 → B j = A j) (e : I 16 = nI L) (e' : J 16 = nI L) : KQ A I B J := ⟨k 0 (by decide) (by decide), k 1 (by decide) (by decide), k 2 (by decide) (by decide), k 3 (by decide) (by decide), k 10 (by decide) (by decide), e'.trans e.symm⟩
theorem j_read {h : ab_H} {x m : Nat} (R : RoW ro) (J : JR ro h x m) : JI ro (fn_X_read x h) (fun k => fn_M_read m k) x m := by
  obtain ⟨A, I, u, v, L, n, a, sg, rs, nn, un, W⟩ := J
  have c1 := W.cell
  have hL := W.2.2.2.2.1
  have eI := W.2.2.2.1
  have h16 := W.2.2.1.2.1
  have hS := R.str W.2.2.1
  obtain ⟨tk, st, en, tx⟩ := W.2.2.2.2.2.1.2.2.2.2
  obtain ⟨cc, d1⟩ := W.2.2.2.2.2.1.2.2.1
  obtain ⟨g0, B0⟩ := begF_ex
  -- the class up to the first word
  obtain ⟨h1, e1, s1, f1⟩ := s_sreset d1
  have tx1 := tx.frm f1 (by omega)
  have f2 := Frm.set h1 (x + 87) (txC (x + 87) L tk st 0)
  have tx2 := tx_u tx1 L tk st 0
  obtain ⟨h3, e3, x3, f3⟩ := t_adv tx2 hL (Nat.zero_le L)
  have f03 : Fr2 h h3 (x + 87) (x + 22) := ((Fr2.sc f1 (Nat.le_refl _) (Nat.le_refl _)).trans (Fr2.tx (f2.wide (by omega) (by omega)))).trans (Fr2.tx f3)
  have hS3 := hS.fr f03 (by omega) (by omega)
  have s3 := (s1.frm (f2.wide (b := x + 87) (m := 2) (by omega) (by omega)) (by omega)).frm f3 (by omega)
  have D3 : DI h3 (x + 22) g0 0 := ⟨_, _, _, _, s3, B0.1.weq _, fun j hj i hi => absurd hi (Nat.not_lt_zero i), fun j hj i hi => absurd hi (Nat.not_lt_zero i), fun j hj i hi => absurd hi (Nat.not_lt_zero i)⟩
  have x3 : CT h3 (x + 87) (A 10) L 0 := x3
  have eX : fn_X_read x h = (ab_cI (ab_cI (fn_Text_tellStart (x + 87) h3) fun v5 h4 => (if v5 = 0 then (ab_gfi h4 (x + 87) 4 3 fun v6 => (some (some (.int ((-10 : Int32) - v6)), h4))) else pt_Text_tellAll_32 (x + 87) (x + 22) (1 : Int32) (0 : Int32) h4)) fun v4 h3 => (if v4 < 0 then (some (some (.int v4), h3)) else (ab_gfr h3 x 10 0 fun v5 => (ab_gfr h3 x 10 1 fun v6 => (ab_ckc h3 v5 3 (ab_cV (fn_Scene_copyFrom v5 v6 h3) fun h7 => (some (some (.int v4), h7)))))))) := by
    rw [q_X_read, xx_4 c1, xx_1 c1, tx_c tx, q_Text_tellAll, sc_c d1, e1, cV_some, show (0 : Int32) = nI 0 from nI_0.symm, tx_pe tx1, tx_c tx2, e3, cV_some, tx_c x3]
  -- the reference up to the first word
  have mp : ∀ h' : ab_H, ∃ I1, MTk I1 (A 10) L 0 ∧ fn_M_read m (mH h' m A I u v) = (ab_cI (some (some (.int (wdV (A 10) L 0 4 (wS 0))), mH h' m A I1 u v)) fun v3 h2 => (if v3 = 0 then (ab_gfi h2 m 11 17 fun v10 => (some (some (.int ((-10 : Int32) - v10)), h2))) else (ab_ckc h2 m 11 (ab_cV (fn_M_goBehind m h2) fun h4 => (ab_gfi h4 m 11 19 fun v5 => (if v5 = (3 : Int32) then (ab_ckc h4 m 11 (ab_cV (fn_M_goBehind m h4) fun h6 => (ab_gfr h6 m 11 21 fun v7 => (ab_cV (fn_M_begin v7 h6) fun h8 => pt_M_read_65 m (1 : Int32) none h8)))) else (ab_gfi h4 m 11 17 fun v9 => (some (some (.int ((-10 : Int32) - v9)), h4))))))))) := fun h' => by
    obtain ⟨I1, g1, t1⟩ := m_lookAt (h := h') (m := m) (A := A) (I := I) (u := u) (v := v) (q := 0) rfl eI hL (Nat.zero_le L)
    rw [nI_0] at g1
    refine ⟨I1, t1, ?_⟩
    rw [q_M_read, mc, g1, cV_some, mc, m_isWord rfl t1 hL (Nat.zero_le L) (wl := 4) (by omega) 4 rfl, ← wd_cong w_wall]
  have le0 := tk_le (A 10) (Nat.zero_le L)
  rcases wd_01 (A 10) L 0 4 (wS 0) with w0 | w0
  · -- no 'wall'
    obtain ⟨I1, t1, em⟩ := mp h3
    obtain ⟨ee, jj⟩ := W.rd0 f03 ⟨_, _, _, x3⟩ D3.shp (kq_of (B := A) (fun _ _ _ => rfl) eI t1.2.2.2.2)
    refine JI.mk (r := -10 - nI (tS (A 10) L 0)) ?_ ee ?_ jj
    · rw [eX, q_Text_tellStart, tx_c x3, t_isWord x3 hS3.1 hL (Nat.zero_le L), cI_some, w0, if_pos rfl, chk_b0, cI_some, if_pos rfl, tx_s x3, cI_some, if_pos (flt_neg _ (by omega))]
    · show fn_M_read m (mH h3 m A I u v) = _
      rw [em, cI_some, w0, if_pos rfl, mi_17, t1.1]
  · obtain ⟨h4, e4, x4, f4⟩ := t_adv x3 hL le0.2.2
    have le1 := tk_le (A 10) le0.2.2
    have x4 : CT h4 (x + 87) (A 10) L (tE (A 10) L 0) := x4
    have f04 := f03.trans (Fr2.tx f4)
    by_cases st2 : tT (A 10) L (tE (A 10) L 0) = 2
    · obtain ⟨h5, e5, x5, f5⟩ := t_stopYes x4 hL le0.2.2 st2
      have f05 := f04.trans (Fr2.tx f5)
      have D5 : DI h5 (x + 22) g0 0 := (ScIs.frm (ScIs.frm D3 f4 (by omega)) f5 (by omega))
      have hS5 := hS.fr f05 (by omega) (by omega)
      have eX2 : fn_X_read x h = (ab_cI (pt_Text_tellAll_32 (x + 87) (x + 22) (nI 1) (nI 0) h5) fun v4 h3 => (if v4 < 0 then (some (some (.int v4), h3)) else (ab_gfr h3 x 10 0 fun v5 => (ab_gfr h3 x 10 1 fun v6 => (ab_ckc h3 v5 3 (ab_cV (fn_Scene_copyFrom v5 v6 h3) fun h7 => (some (some (.int v4), h7)))))))) := by
        rw [eX, q_Text_tellStart, tx_c x3, t_isWord x3 hS3.1 hL (Nat.zero_le L), cI_some, w0, if_neg z10, tx_c x3, e4, cV_some, tx_c x4, e5, cI_some, chk_b1, cI_some, if_neg z10]
        rfl
      have mp2 : ∀ h' : ab_H, ∃ A2 I3, fn_M_read m (mH h' m A I u v) = pt_M_read_65 m (nI 1) none (mH h' m A2 I3 u v) ∧ MTk I3 (A 10) L (tE (A 10) L (tE (A 10) L 0)) ∧ (∀ k, k < 70 → A2 11 k = g0 k) ∧ (∀ j, j ≠ 11 → j ≠ 12 → A2 j = A j) := fun h' => by
        obtain ⟨I1, t1, em⟩ := mp h'
        obtain ⟨I2, g2, t2⟩ := m_behind (h := h') (m := m) (A := A) (u := u) (v := v) rfl t1 hL (Nat.zero_le L)
        obtain ⟨I3, g3, t3⟩ := m_behind (h := h') (m := m) (A := A) (u := u) (v := v) rfl t2 hL le0.2.2
        obtain ⟨g1, e6, B1⟩ := m_begin2 (h := mH h' m A I3 u v) (r := m + 12) mg_12 (by omega) (by omega)
        rw [ma_s11] at e6
        refine ⟨ropU A 11 g1, I3, ?_, t3, fun k hk => B1.eq B0 k hk, fun j j1 _ => ropU_ne _ _ j1⟩
        rw [em, cI_some, w0, if_neg z10, mc, g2, cV_some, mi_19, t2.2.2.1, if_pos (mt_3.mpr st2), mc, g3, cV_some, mr_21, e6, cV_some]
        rfl
      rcases p_all (b := A 10) hL 150 (tE (A 10) L (tE (A 10) L 0)) 0 1 g0 0 le1.2.2 (by omega) (by omega) B0.1.gd with ⟨q1, a1, a2, a3⟩ | ⟨q1, g', n', c', a0, G', a2, a3⟩
      · obtain ⟨h6, e6, x6, S6, f6⟩ := a2 (x + 87) (x + 22) h5 x5 hS5 (by omega) (by omega) D5
        have le2 := tk_le (A 10) a1
        obtain ⟨A2, I3, m1, t3, m2, m3⟩ := mp2 h6
        obtain ⟨A4, I4, m4, m5, m6⟩ := a3 h6 m A2 I3 u v none (m3 10 (by decide) (by decide)) t3 m2
        obtain ⟨ee, jj⟩ := W.rd0 (f05.trans f6) ⟨_, _, _, x6⟩ S6 (kq_of (B := A4) (fun j j1 j2 => (m6 j j1 j2).trans (m3 j j1 j2)) eI m5)
        refine JI.mk (r := -10 - nI (tS (A 10) L q1)) ?_ ee (m1.trans m4) jj
        rw [eX2, e6, cI_some, if_pos (flt_neg _ (by omega))]
      · obtain ⟨h6, e6, x6, D6, f6⟩ := a2 (x + 87) (x + 22) h5 x5 hS5 (by omega) (by omega) D5
        have f06 := f05.trans f6
        have c6 : ab_get h6 x = some (.inr (10, xFs x u v (A 3))) := by rw [f06.2 _ (by omega) (by omega)]; exact c1
        obtain ⟨hh, ff1, ff2⟩ := f06.split
        have N6 : Shp h6 (x + 1) := (W.sc.shp.frm ff1 (by omega)).frm ff2 (by omega)
        obtain ⟨h7, e7, t7, f7⟩ := sc_copy N6 D6 G' (by omega)
        obtain ⟨A2, I3, m1, t3, m2, m3⟩ := mp2 h7
        obtain ⟨A4, I4, m4, m5, m6, m7⟩ := a3 h7 m A2 I3 u v none (m3 10 (by decide) (by decide)) t3 m2
        obtain ⟨ee, jj⟩ := W.rd1 (B := A4) (J := I4) f06 f7 ⟨_, _, _, x6.frm f7 (by omega)⟩ ((ScIs.shp D6).frm f7 (by omega)) (t7.low G' m6) (G'.low m6) m5 (fun j j0 j1 j2 => (m7 j j0 j1 j2).trans (m3 j j1 j2))
        refine JI.mk (r := nI c') ?_ ee (m1.trans m4) jj
        rw [eX2, e6, cI_some, if_neg (nI_pos (by omega)), xx_0 c6, xx_1 c6, e7]
    · -- 'wall' without its stop
      obtain ⟨I1, t1, em⟩ := mp h4
      obtain ⟨I2, g2, t2⟩ := m_behind (h := h4) (m := m) (A := A) (u := u) (v := v) rfl t1 hL (Nat.zero_le L)
      obtain ⟨ee, jj⟩ := W.rd0 f04 ⟨_, _, _, x4⟩ ((ScIs.shp D3).frm f4 (by omega)) (kq_of (B := A) (fun _ _ _ => rfl) eI t2.2.2.2.2)
      refine JI.mk (r := -10 - nI (tS (A 10) L (tE (A 10) L 0))) ?_ ee ?_ jj
      · rw [eX, q_Text_tellStart, tx_c x3, t_isWord x3 hS3.1 hL (Nat.zero_le L), cI_some, w0, if_neg z10, tx_c x3, e4, cV_some, tx_c x4, t_stopNo x4 st2, cI_some, chk_b0, cI_some, if_pos rfl, tx_s x4, cI_some, if_pos (flt_neg _ (by omega))]
      · show fn_M_read m (mH h4 m A I u v) = _
        rw [em, cI_some, w0, if_neg z10, mc, g2, cV_some, mi_19, t2.2.2.1, if_neg (fun z => st2 (mt_3.mp z)), mi_17, t2.1]
end
