/-! both sides: questions, further -/
section
variable {ro : Nat → Option ab_Ce}
theorem m1_cases (y : Int32) : ¬ (-1 : Int32) ≤ y ∨ y = -1 ∨ ((-1 : Int32) ≤ y ∧ ¬ y = -1 ∧ ∃ k, k < 2 ^ 31 ∧ y = nI k) := by
  by_cases h1 : (-1 : Int32) ≤ y
  · by_cases h2 : y = -1
    · exact Or.inr (Or.inl h2)
    · refine Or.inr (Or.inr ⟨h1, h2, nI_of (fun z => h2 (Int32.toInt_inj.mp ?_))⟩)
      rw [Int32.lt_iff_toInt_lt] at z
      rw [Int32.le_iff_toInt_le] at h1
      have e1 : (-1 : Int32).toInt = -1 := by decide
      have e2 : (0 : Int32).toInt = 0 := by decide
      omega
  · exact Or.inl h1
theorem wkN_le8 (n : Nat) (V : Nat → Nat → Int32) : ∀ (f : Nat) (Q : Nat → Nat → Int32) (a : Nat), wkN n V f Q a ≤ f
  | 0, _, _ => Nat.le_refl _
  | f + 1, Q, a => by
    unfold wkN
    split
    · omega
    · have := wkN_le8 n V f (ropU Q 5 (bt1 0)) (nxN n Q V a)
      omega
theorem inV_e (x : Int32) (n : Nat) (hn : n ≤ 5) : inV x (nI 0) (nI n - 2) = 0 ∨ (inV x (nI 0) (nI n - 2) = 1 ∧ ∃ k, k + 2 ≤ n ∧ x = nI k) := by
  by_cases h2 : 2 ≤ n
  · have e : nI n - 2 = nI (n - 2) := pk_sub (b := 2) h2
    rw [e]
    rcases inV_d x 0 (n - 2) (by omega) (by omega) with e | ⟨e, k, h1, h2, h3⟩
    · exact Or.inl e
    · exact Or.inr ⟨e, k, by omega, h3⟩
  · refine Or.inl ?_
    unfold inV
    by_cases h1 : x < nI 0
    · exact if_pos h1
    · rw [if_neg h1, if_pos]
      have hk : (nI n - 2).toInt < 0 := by
        match n, h2 with
        | 0, _ => decide
        | 1, _ => decide
        | k + 2, h2 => omega
      rw [Int32.lt_iff_toInt_lt] at h1 ⊢
      have e1 : (nI 0).toInt = 0 := by decide
      omega
section
variable {h : ab_H} {x m : Nat}
theorem j_path (J : JR ro h x m) (i : Int32) : JI ro (fn_X_path x i h) (fun k => fn_M_path m i k) x m := by
  obtain ⟨A, I, u, v, L, n, a, sg, rs, nn, un, W⟩ := J
  have G := W.gd
  have hs := W.sc.sq
  have walk := fun (k0 : Nat) (F0 S0 : Nat → Int32) (hy : WyAt h (x + 98) k0 F0 S0) => t_walk hy W.qs.2.2.2.1 hs G.1.1 G.1.2.2.1 G.2.2.1 (by omega)
  rcases m1_cases i with e | e | ⟨e, e', k, hk, rfl⟩
  · obtain ⟨h1, h2, e1, e2, e3, e4⟩ := j_bad W (-10)
    refine JI.mk (r := -10) ?_ e2 ?_ e4
    · rw [q_X_path, if_neg e, xx_c W.cell, e1, cI_some]
    · rw [q_M_path, if_neg e, mc, e3, cI_some]
  · subst e
    obtain ⟨k0, F0, S0, hy⟩ := W.qs.2.2.1
    obtain ⟨h1, S1, e1, y1, s1, r1, f1⟩ := walk k0 F0 S0 hy
    have c1 := (W.2.2.2.2.2.1.frm f1 (by omega)).1
    obtain ⟨A1, I1, e2, k1⟩ := m_pathN (h := h1) (m := m) (u := u) (v := v) (I := I) G.1 G.2.2.1 rfl
    refine JI.mk (r := nI (wkN n (WF (A 0)) 8 (RF (A 0) sg rs) a)) ?_ (W.mid f1 (by omega)) e2 (W.ask f1 (by omega) (W.qs.wy f1 y1 r1) k1)
    rw [q_X_path, if_pos (by decide), xx_6 W.cell, xx_0 W.cell, wy_c hy, e1, cV_some, if_pos rfl, xx_6 c1, wy_k y1]
  · obtain ⟨k0, F0, S0, hy⟩ := W.qs.2.2.1
    obtain ⟨h1, S1, e1, y1, s1, r1, f1⟩ := walk k0 F0 S0 hy
    have c1 := (W.2.2.2.2.2.1.frm f1 (by omega)).1
    have h8 := wkN_le8 n (WF (A 0)) 8 (RF (A 0) sg rs) a
    obtain ⟨A1, I1, e2, k1⟩ := m_pathK (h := h1) (m := m) (u := u) (v := v) (I := I) G.1 G.2.2.1 rfl hk
    refine JI.mk (r := if k < wkN n (WF (A 0)) 8 (RF (A 0) sg rs) a then nI (wkS n (WF (A 0)) 8 (RF (A 0) sg rs) a k) else -5) ?_ (W.mid f1 (by omega)) e2 (W.ask f1 (by omega) (W.qs.wy f1 y1 r1) k1)
    rw [q_X_path, if_pos e, xx_6 W.cell, xx_0 W.cell, wy_c hy, e1, cV_some, if_neg e', xx_6 c1, wy_k y1]
    by_cases hlt : k < wkN n (WF (A 0)) 8 (RF (A 0) sg rs) a
    · rw [if_neg (nI_ge hlt (by omega)), if_pos hlt, xx_6 c1, wy_s y1, wy_ls y1 (by omega), s1 k hlt]
    · rw [if_pos (nI_le (by omega) hk), if_neg hlt]
theorem j_by (J : JR ro h x m) (p w : Int32) : JI ro (fn_X_by x p w h) (fun k => fn_M_by m p w k) x m := by
  obtain ⟨A, I, u, v, L, n, a, sg, rs, nn, un, W⟩ := J
  have G := W.gd
  have hs := W.sc.sq
  have ea : A 0 1 = nI a := G.1.2.2.2.1
  have ha8 := G.1.2.2.1
  rcases inV_d p 0 8 (by omega) (by omega) with e | ⟨e, q, -, hq, rfl⟩
  · obtain ⟨h1, h2, e1, e2, e3, e4⟩ := j_bad W (-2)
    refine JI.mk (r := -2) ?_ e2 ?_ e4
    · rw [q_X_by, x_wn p 0 8 (by decide) (by decide), cI_some, e, if_pos rfl, xx_c W.cell, e1, cI_some]
    · rw [q_M_by, m_wn p 0 8 (by decide) (by decide), cI_some, e, if_pos rfl, mc, e3, cI_some]
  · rcases inV_d w 0 1 (by omega) (by omega) with e' | ⟨e', b, -, hb, rfl⟩
    · obtain ⟨h1, h2, e1, e2, e3, e4⟩ := j_bad W (-2)
      refine JI.mk (r := -2) ?_ e2 ?_ e4
      · rw [q_X_by, x_wn _ 0 8 (by decide) (by decide), cI_some, e, if_neg z10, x_isFlag, cI_some, e', if_pos rfl, xx_c W.cell, e1, cI_some]
      · rw [q_M_by, m_wn _ 0 8 (by decide) (by decide), cI_some, e, if_neg z10, m_wn w 0 1 (by decide) (by decide), cI_some, e', if_pos rfl, mc, e3, cI_some]
    · obtain ⟨k0, F0, S0, hy⟩ := W.qs.2.2.1
      obtain ⟨h1, F1, e1, y1, r1, f1⟩ := t_fewest hy W.qs.2.2.2.1 hs G.1.1 G.2.2.1 hq ha8 G.1.2.2.2.2.1 (fun i hi => rfl) (by omega)
      have eX : fn_X_by x (nI q) (nI b) h = some (some (.int (byV b (if q < a then -1 else if q = a then 0 else fewV n (WF (A 0)) (RF (A 0) sg rs) a sg q))), h1) := by
        rw [q_X_by, x_wn _ 0 8 (by decide) (by decide), cI_some, e, if_neg z10, x_isFlag, cI_some, e', if_neg z10, xx_6 W.cell, xx_0 W.cell, wy_c hy, e1, cI_some]
        unfold byV
        by_cases hm : (if q < a then -1 else if q = a then 0 else fewV n (WF (A 0)) (RF (A 0) sg rs) a sg q) = -1
        · rw [if_pos hm, if_pos hm]
        · rw [if_neg hm, if_neg hm]
          by_cases hb0 : b = 0
          · subst hb0
            rw [if_pos (show nI 0 = 0 from nI_0), if_pos rfl]
          · rw [if_neg (nI_ne0 (by omega) (by omega)), if_neg hb0]
      by_cases haq : a < q
      · obtain ⟨A1, I1, e2, k1⟩ := m_by (h := h1) (m := m) (u := u) (v := v) (I := I) G.1 G.2.2.1 hq haq hb rfl
        refine JI.mk eX (W.mid f1 (by omega)) ?_ (W.ask f1 (by omega) (W.qs.wy f1 y1 r1) k1)
        rw [q_M_by, m_wn _ 0 8 (by decide) (by decide), cI_some, e, if_neg z10, m_wn _ 0 1 (by decide) (by decide), cI_some, e', if_neg z10, mr_0, ml_0_1, ea, if_pos (nI_lt haq (by omega)), mc, e2, if_neg (show ¬ q < a by omega), if_neg (show ¬ q = a by omega)]
      · refine JI.mk eX (W.mid f1 (by omega)) ?_ (W.ask f1 (by omega) (W.qs.wy f1 y1 r1) (KQ.refl A I))
        rw [q_M_by, m_wn _ 0 8 (by decide) (by decide), cI_some, e, if_neg z10, m_wn _ 0 1 (by decide) (by decide), cI_some, e', if_neg z10, mr_0, ml_0_1, ea, if_neg (nI_nlt (by omega) (by omega))]
        by_cases hqa : q = a
        · subst hqa
          rw [if_pos rfl, if_neg (Nat.lt_irrefl _), if_pos rfl]
          unfold byV
          rw [if_neg (by decide)]
          by_cases hb0 : b = 0
          · rw [if_pos hb0]
            rfl
          · rw [if_neg hb0]
            rfl
        · rw [if_neg (fun z => hqa ((nI_eq (by omega) (by omega)).mp z)), if_pos (show q < a by omega)]
          rfl
theorem j_tied (J : JR ro h x m) (c i : Int32) : JI ro (fn_X_tied x c i h) (fun k => fn_M_tied m c i k) x m := by
  obtain ⟨A, I, u, v, L, n, a, sg, rs, nn, un, W⟩ := J
  have G := W.gd
  have hs := W.sc.sq
  rcases inV_c c n G.1.1 with e | ⟨e, p, hp, rfl⟩
  · obtain ⟨h1, h2, e1, e2, e3, e4⟩ := j_bad W (-10)
    refine JI.mk (r := -10) ?_ e2 ?_ e4
    · rw [q_X_tied, xx_c W.cell, x_isC W, cI_some, e, if_pos rfl, xx_c W.cell, e1, cI_some]
    · rw [q_M_tied, mc, m_isC G, cI_some, e, if_pos rfl, mc, e3, cI_some]
  · by_cases hi : (-1 : Int32) ≤ i
    · have h0 : 0 < n := by omega
      have hn := G.1.1
      have hN : n ^ n < 2 ^ 31 := by
        match n, hn with
        | 0, _ => decide
        | 1, _ => decide
        | 2, _ => decide
        | 3, _ => decide
        | 4, _ => decide
        | 5, _ => decide
        | k + 6, hn => omega
      have en : A 0 0 = nI n := G.1.2.1
      have run : ∀ h1 : ab_H, ∃ A1 I1 B y6 y7, fn_M_tied m (nI p) i (mH h1 m A I u v) = pt_M_tied_64 m (nI p) i (tdL n (RF (A 0) sg rs) (WF (A 0)) (nI p) (n ^ n) 0 (-1) B).1 (nI (n ^ n)) (nI (n ^ n)) y6 y7 (mH h1 m A1 I1 u v) ∧ (∀ j, j < n → A1 8 j = (tdL n (RF (A 0) sg rs) (WF (A 0)) (nI p) (n ^ n) 0 (-1) B).2 j) ∧ KQ A I A1 I1 := fun h1 => by
        obtain ⟨A1, I1, e1, l1, k1⟩ := G.1.lay (h := h1) (m := m) (u := u) (v := v) (I := I) rfl
        obtain ⟨A2, y6, y7, e2, r2, k2⟩ := m_tied_loop (h := h1) (m := m) (u := u) (v := v) G.1 h0 (nI p) i hN (n ^ n) 0 (-1) none none idN A1 (A1 8) (by omega) (l1.sag 0) (fun _ _ => rfl)
        have e3 := m_codes_loop (h := h1) (m := m) (u := u) (v := v) (I := I) hn en (nI p) i none none n 0 (by omega)
        rw [nI_0] at e2 e3
        refine ⟨A2, _, A1 8, y6, y7, ?_, r2, k1.trans ((KQ.int A1 I1 _ (by decide)).trans k2)⟩
        have e4 : nI (n ^ 0) = (1 : Int32) := by
          rw [Nat.pow_zero]
          rfl
        rw [e4] at e3
        rw [q_M_tied, mc, m_isC G, cI_some, e, if_neg z10, if_pos hi, e3, e1, cV_some, mp_10, e2]
        rfl
      have best := fun (O B : Nat → Int32) (hy : TyAt h (x + 109) O B) => (show ∃ h' P O', (∀ j, j < n → P j = nI j) ∧ fn_Tying_bestFor (x + 109) (x + 1) (nI p) h = some (some (.int (bfL n (RF (A 0) sg rs) (WF (A 0)) (nI p) 120 P (-1) B).1), h') ∧ TyAt h' (x + 109) O' (bfL n (RF (A 0) sg rs) (WF (A 0)) (nI p) 120 P (-1) B).2 ∧ RopeSh h' (x + 109 + 1) ∧ Frm h h' (x + 109) 11 by
        have hs' := hs
        have hb' := @t_bestFor h (x + 109) (x + 1) (n - 1) a (WF (A 0)) (RF (A 0) sg rs) O B (nI p) (by omega) (by omega) hy W.qs.2.2.2.2.2.1
        rw [show n - 1 + 1 = n by omega] at hb'
        exact hb' hs')
      have hge : nI (n ^ n) ≤ nI (n ^ n) := nI_le (Nat.le_refl _) hN
      rcases m1_cases i with hx | hx | ⟨-, hx, k, hk, rfl⟩
      · exact absurd hi hx
      · subst hx
        obtain ⟨O, B, hy⟩ := W.qs.2.2.2.2.1
        obtain ⟨h1, P, O1, hP, e1, y1, r1, f1⟩ := best O B hy
        obtain ⟨A1, I1, B1, y6, y7, e2, r2, k1⟩ := run h1
        obtain ⟨hb1, hb2⟩ := bf_all hn h0 (RF (A 0) sg rs) (WF (A 0)) (nI p) hP B B1
        refine JI.mk (r := (tdL n (RF (A 0) sg rs) (WF (A 0)) (nI p) (n ^ n) 0 (-1) B1).1) ?_ (W.mid f1 (by omega)) ?_ (W.ask f1 (by omega) (W.qs.ty f1 y1 r1) k1)
        · rw [q_X_tied, xx_c W.cell, x_isC W, cI_some, e, if_neg z10, if_pos hi, xx_0 W.cell, sq_r hs, ri_n hs.2.2, if_pos (show (-1 : Int32) < nI n by
            rw [Int32.lt_iff_toInt_lt, nI_toInt (by omega)]
            have : (-1 : Int32).toInt = -1 := by decide
            omega), xx_7 W.cell, xx_0 W.cell, ty_c hy, e1, cI_some, if_pos rfl, hb1]
        · show fn_M_tied m (nI p) (-1) (mH h1 m A I u v) = _
          rw [e2, q_M_tied_64, if_pos hge, if_pos rfl]
      · by_cases hkn : k < n
        · obtain ⟨O, B, hy⟩ := W.qs.2.2.2.2.1
          obtain ⟨h1, P, O1, hP, e1, y1, r1, f1⟩ := best O B hy
          have c1 := (W.2.2.2.2.2.1.frm f1 (by omega)).1
          obtain ⟨A1, I1, B1, y6, y7, e2, r2, k1⟩ := run h1
          obtain ⟨hb1, hb2⟩ := bf_all hn h0 (RF (A 0) sg rs) (WF (A 0)) (nI p) hP B B1
          have en1 : A1 0 0 = nI n := by rw [k1.1]; exact en
          refine JI.mk (r := (tdL n (RF (A 0) sg rs) (WF (A 0)) (nI p) (n ^ n) 0 (-1) B1).2 k) ?_ (W.mid f1 (by omega)) ?_ (W.ask f1 (by omega) (W.qs.ty f1 y1 r1) k1)
          · rw [q_X_tied, xx_c W.cell, x_isC W, cI_some, e, if_neg z10, if_pos hi, xx_0 W.cell, sq_r hs, ri_n hs.2.2, if_pos (nI_lt hkn (by omega)), xx_7 W.cell, xx_0 W.cell, ty_c hy, e1, cI_some, if_neg hx, xx_7 c1, ty_b y1, ty_lb y1 (by omega), hb2 k hkn]
          · show fn_M_tied m (nI p) (nI k) (mH h1 m A I u v) = _
            rw [e2, q_M_tied_64, if_pos hge, if_neg hx, mc, m_many, cI_some, en1, if_neg (nI_ge hkn (by omega)), mr_13, ml_8 (by omega), r2 k hkn]
        · obtain ⟨A1, I1, B1, y6, y7, e2, r2, k1⟩ := run h
          have en1 : A1 0 0 = nI n := by rw [k1.1]; exact en
          refine JI.mk (r := -5) ?_ W.1 ?_ (W.here k1)
          · rw [q_X_tied, xx_c W.cell, x_isC W, cI_some, e, if_neg z10, if_pos hi, xx_0 W.cell, sq_r hs, ri_n hs.2.2, if_neg (nI_nlt (by omega) hk)]
          · show fn_M_tied m (nI p) (nI k) (mH h m A I u v) = _
            rw [e2, q_M_tied_64, if_pos hge, if_neg hx, mc, m_many, cI_some, en1, if_pos (nI_le (by omega) hk)]
    · obtain ⟨h1, h2, e1, e2, e3, e4⟩ := j_bad W (-10)
      refine JI.mk (r := -10) ?_ e2 ?_ e4
      · rw [q_X_tied, xx_c W.cell, x_isC W, cI_some, e, if_neg z10, if_neg hi, xx_c W.cell, e1, cI_some]
      · rw [q_M_tied, mc, m_isC G, cI_some, e, if_neg z10, if_neg hi, mc, e3, cI_some]
theorem j_cut (J : JR ro h x m) (i w : Int32) : JI ro (fn_X_cut x i w h) (fun k => fn_M_cut m i w k) x m := by
  obtain ⟨A, I, u, v, L, n, a, sg, rs, nn, un, W⟩ := J
  have G := W.gd
  have hs := W.sc.sq
  have hn := G.1.1
  have ea : A 0 1 = nI a := G.1.2.2.2.1
  have en : A 0 0 = nI n := G.1.2.1
  have hi2 : ∀ h : ab_H, fn_M_in i.toInt64 (0 : Int64) (Int32.toInt64 (nI n - (2 : Int32))) h = some (some (.int (inV i (nI 0) (nI n - 2))), h) := fun h => m_in i (nI 0) (nI n - 2) (by decide) rfl h
  have hx2 : fn_X_within i (0 : Int32) (nI n - (2 : Int32)) h = some (some (.int (inV i (nI 0) (nI n - 2))), h) := x_in i (nI 0) (nI n - 2) h
  rcases inV_e i n hn with e | ⟨e, k, hk, rfl⟩
  · obtain ⟨h1, h2, e1, e2, e3, e4⟩ := j_bad W (-10)
    refine JI.mk (r := -10) ?_ e2 ?_ e4
    · rw [q_X_cut, xx_0 W.cell, sq_r hs, ri_n hs.2.2, hx2, cI_some, e, if_pos rfl, xx_c W.cell, e1, cI_some]
    · rw [q_M_cut, mc, m_many, cI_some, en, hi2, cI_some, e, if_pos rfl, mc, e3, cI_some]
  · rcases inV_d w 0 1 (by omega) (by omega) with e' | ⟨e', b, -, hb, rfl⟩
    · obtain ⟨h1, h2, e1, e2, e3, e4⟩ := j_bad W (-10)
      refine JI.mk (r := -10) ?_ e2 ?_ e4
      · rw [q_X_cut, xx_0 W.cell, sq_r hs, ri_n hs.2.2, hx2, cI_some, e, if_neg z10, x_isFlag, cI_some, e', if_pos rfl, xx_c W.cell, e1, cI_some]
      · rw [q_M_cut, mc, m_many, cI_some, en, hi2, cI_some, e, if_neg z10, m_wn w 0 1 (by decide) (by decide), cI_some, e', if_pos rfl, mc, e3, cI_some]
    · by_cases h8 : a < 8
      · have lay0 : ∀ (h1 : ab_H) (b : Nat), ∃ A1 I1, fn_M_layRope m (mH h1 m A I u v) = some (none, mH h1 m A1 I1 u v) ∧ Lay (A 0) n 0 (fun l => b + l) (fK (A 0)) (fS (A 0)) sg rs A1 (upd I1 7 (nI 0)) ∧ KQ A I A1 I1 := fun h1 b => by
          obtain ⟨A1, I1, e1, l1, k1⟩ := G.1.lay (h := h1) (m := m) (u := u) (v := v) (I := I) rfl
          exact ⟨A1, I1, e1, ⟨l1.1, rfl, l1.2.2.1, l1.2.2.2.1, fun j hj => absurd hj (Nat.not_lt_zero j), l1.2.2.2.2.2⟩, k1⟩
        have h8' : ¬ nI a = (8 : Int32) := fun z => by have := (nI_eq (b := 8) (by omega) (by decide)).mp z; omega
        by_cases hb0 : b = 0
        · subst hb0
          obtain ⟨h1, e1, r1, f1⟩ := t_ofPart (v := x + 89) (b := 0) (e := k + 1) W.qs.1 W.qs.2.1 hs hn h8 (by omega) (by omega) (by omega)
          rw [nI_0] at e1
          obtain ⟨A1, I1, e2, l1, k1⟩ := lay0 h1 0
          obtain ⟨A2, e3, k2⟩ := m_cut_loop (h := h1) (m := m) (u := u) (v := v) (I := I1) G.1 h8 (nI k) (nI 0) (b := 0) (k := k + 1) (by omega) (k + 1) 0 A1 (by omega) l1
          rw [nI_0] at e3
          refine JI.mk (r := sayR (k + 1 - 0) (fun j i => RF (A 0) sg rs j (0 + i)) (WF (A 0)) a) ?_ (W.mid f1 (by omega)) ?_ (W.ask f1 (by omega) (W.qs.vo f1 r1) (k1.trans (k2.trans (KQ.int A2 I1 (nI (k + 1)) (k := 7) (by decide)))))
          · rw [q_X_cut, xx_0 W.cell, sq_r hs, ri_n hs.2.2, hx2, cI_some, e, if_neg z10, x_isFlag, cI_some, e', if_neg z10, xx_0 W.cell, sq_a hs, if_pos (show nI a < (8 : Int32) from nI_lt (b := 8) h8 (by decide)), if_pos (show nI 0 = 0 from nI_0), xx_5 W.cell, xx_0 W.cell, vo_c W.qs.1, nI_1, e1, cI_some]
          · rw [q_M_cut, mc, m_many, cI_some, en, hi2, cI_some, e, if_neg z10, m_wn _ 0 1 (by decide) (by decide), cI_some, e', if_neg z10, mr_0, ml_0_1, ea, if_neg h8', mc, e2, cV_some, if_pos (show nI 0 = 0 from nI_0), q_M_cut_64, if_pos (show nI 0 = 0 from nI_0), nI_1, mp_7, nI_0, e3]
            rfl
        · have hb1 : b = 1 := by omega
          subst hb1
          obtain ⟨h1, e1, r1, f1⟩ := t_ofPart (v := x + 89) (b := k + 1) (e := n) W.qs.1 W.qs.2.1 hs hn h8 (by omega) (by omega) (by omega)
          obtain ⟨A1, I1, e2, l1, k1⟩ := lay0 h1 (k + 1)
          have en1 : A1 0 0 = nI n := by rw [k1.1]; exact en
          obtain ⟨A2, e3, k2⟩ := m_cut_loop (h := h1) (m := m) (u := u) (v := v) (I := I1) G.1 h8 (nI k) (nI 1) (b := k + 1) (k := n - (k + 1)) (by omega) (n - (k + 1)) 0 A1 (by omega) l1
          rw [nI_0] at e3
          have esub : nI n - nI k - 1 = nI (n - (k + 1)) := by
            rw [pk_sub (by omega), show n - k = n - (k + 1) + 1 by omega, nI_pred]
          refine JI.mk (r := sayR (n - (k + 1)) (fun j i => RF (A 0) sg rs j (k + 1 + i)) (WF (A 0)) a) ?_ (W.mid f1 (by omega)) ?_ (W.ask f1 (by omega) (W.qs.vo f1 r1) (k1.trans (k2.trans (KQ.int A2 I1 (nI (n - (k + 1))) (k := 7) (by decide)))))
          · rw [q_X_cut, xx_0 W.cell, sq_r hs, ri_n hs.2.2, hx2, cI_some, e, if_neg z10, x_isFlag, cI_some, e', if_neg z10, xx_0 W.cell, sq_a hs, if_pos (show nI a < (8 : Int32) from nI_lt (b := 8) h8 (by decide)), if_neg (show ¬ nI 1 = 0 by decide), xx_5 W.cell, xx_0 W.cell, xx_0 W.cell, sq_r hs, ri_n hs.2.2, vo_c W.qs.1, nI_1, e1, cI_some]
          · rw [q_M_cut, mc, m_many, cI_some, en, hi2, cI_some, e, if_neg z10, m_wn _ 0 1 (by decide) (by decide), cI_some, e', if_neg z10, mr_0, ml_0_1, ea, if_neg h8', mc, e2, cV_some, if_neg (show ¬ nI 1 = 0 by decide), q_M_cut_64, if_neg (show ¬ nI 1 = 0 by decide), mc, m_many, cI_some, en1, esub, nI_1, mp_7, e3]
      · have h8' : a = 8 := by have := G.1.2.2.1; omega
        obtain ⟨h1, h2, e1, e2, e3, e4⟩ := j_no W
        refine JI.mk (r := -3) ?_ e2 ?_ e4
        · rw [q_X_cut, xx_0 W.cell, sq_r hs, ri_n hs.2.2, hx2, cI_some, e, if_neg z10, x_isFlag, cI_some, e', if_neg z10, xx_0 W.cell, sq_a hs, if_neg (show ¬ nI a < (8 : Int32) from nI_nlt (b := 8) (by omega) (by omega)), xx_c W.cell, e1, cI_some]
        · rw [q_M_cut, mc, m_many, cI_some, en, hi2, cI_some, e, if_neg z10, m_wn _ 0 1 (by decide) (by decide), cI_some, e', if_neg z10, mr_0, ml_0_1, ea, if_pos (show nI a = (8 : Int32) by rw [h8']; rfl), mc, e3, cI_some]
end
end
