/-! both sides: sag, rest, go, undo -/
section
variable {ro : Nat → Option ab_Ce}
def nbN (s c b : Nat) : Nat := if b = 1 then s ||| 2 ^ c else s &&& (31 ^^^ 2 ^ c)
theorem nb_and : ∀ s, s < 32 → ∀ c, c < 5 → nI s &&& (((1 : Int32) <<< (nI c &&& 31)) ^^^ (-1 : Int32)) = nI (s &&& (31 ^^^ 2 ^ c)) := by decide +kernel
theorem nb_bit : ∀ s, s < 32 → ∀ c, c < 5 → ∀ b, b < 2 → ∀ i, i < 5 → bt1 (nbN s c b) i = if i = c then nI b else bt1 s i := by decide +kernel
theorem nb_lt : ∀ n, n < 6 → ∀ s, s < 2 ^ n → ∀ c, c < n → ∀ b, b < 2 → nbN s c b < 2 ^ n := by decide +kernel
theorem m_turn_sag {h : ab_H} {m : Nat} {A : Nat → Nat → Int32} {I : Nat → Int32} {u v : Int64} {n a sg rs nn un : Nat} (G : Gd (A 0) n a sg rs nn un) {c b : Nat} (hc : c < n) (hb : b ≤ 1) : ∃ g w dl, fn_M_turn m (2 : Int32) (nI c) (nI b) (mH h m A I u v) = some (some (.int (bt1 sg c)), mH h m (ropU A 0 (upd g 2 (nI (nbN sg c b)))) I u v) ∧ Kpt (A 0) g un w dl := by
  have hn := G.1.1
  have hsg := G.1.sg32
  have hrs := G.1.rs32
  have e2 : A 0 2 = nI sg := G.1.2.2.2.2.2.1
  obtain ⟨g, w, dl, e1, K⟩ := m_keep (h := h) (m := m) (A := A) (I := I) (u := u) (v := v) rfl G.2.2.2.1 G.2.2.2.2.1
  have e3 : g 2 = nI sg := (K.1 2 (by decide) (by decide)).trans e2
  refine ⟨g, w, dl, ?_, K⟩
  rw [q_M_turn, mr_0, ml_0_2, e2, mc, e1, cV_some, mr_0, mr_0, ml_0_2, ropU_at, e3, bt_shr sg (by omega) c (by omega), or_bit sg (by omega) c (by omega), mr_0, ml_0_2, ropU_at, e3, nb_and sg (by omega) c (by omega), ma_0_2, ma_0_2, ropU_rr, ropU_rr, ropU_at]
  unfold nbN
  by_cases h1 : b = 1
  · subst h1
    rw [if_pos (show nI 1 = (1 : Int32) from rfl), if_pos rfl]
  · have h0 : b = 0 := by omega
    subst h0
    rw [if_neg (show ¬ nI 0 = (1 : Int32) by decide), if_neg h1]
theorem j_sag {h : ab_H} {x m : Nat} (J : JR ro h x m) (c b : Int32) : JI ro (fn_X_sag x c b h) (fun k => fn_M_sag m c b k) x m := by
  obtain ⟨A, I, u, v, L, n, a, sg, rs, nn, un, W⟩ := J
  have G := W.gd
  have c1 := W.cell
  have hn := G.1.1
  rcases inV_c c n G.1.1 with e | ⟨e, d, hd, rfl⟩
  · obtain ⟨h1, h2, e1, e2, e3, e4⟩ := j_bad W (-2)
    refine JI.mk (r := -2) ?_ e2 ?_ e4
    · rw [q_X_sag, xx_c c1, x_isC W, cI_some, e, if_pos rfl, xx_c c1, e1, cI_some]
    · rw [q_M_sag, mc, m_isC G, cI_some, e, if_pos rfl, mc, e3, cI_some]
  · rcases inV_d b 0 1 (by omega) (by omega) with e' | ⟨e', y, -, hy, rfl⟩
    · obtain ⟨h1, h2, e1, e2, e3, e4⟩ := j_bad W (-2)
      refine JI.mk (r := -2) ?_ e2 ?_ e4
      · rw [q_X_sag, xx_c c1, x_isC W, cI_some, e, if_neg z10, x_isFlag, cI_some, e', if_pos rfl, xx_c c1, e1, cI_some]
      · rw [q_M_sag, mc, m_isC G, cI_some, e, if_neg z10, m_wn b 0 1 (by decide) (by decide), cI_some, e', if_pos rfl, mc, e3, cI_some]
    · obtain ⟨Wl, R, N, U, s1, s2, s3, s4, s5⟩ := W.sc
      have d5 : d < 5 := by omega
      obtain ⟨h1, e1, t1, f1⟩ := s_remember (sm := sg) (rm := rs) s1 hn G.2.2.2.1 G.1.2.2.2.2.1 G.1.2.2.2.2.2.2.1 (fun i hi => s3 5 (by decide) i hi) (fun i hi => s3 6 (by decide) i hi)
      have hr1 : RopeAt h1 (x + 1 + 6) n R := t1.2.2.1
      have c2 : ab_get h1 x = some (.inr (10, xFs x u v (A 3))) := by rw [f1.2 _ (by omega)]; exact c1
      have f2 := Frm.set h1 (x + 1 + 6 + 6) (.inl (0, 5, upd (R 5) d (nI y)))
      have s2' := sc_uR t1 (f2.wide (by omega) (by omega)) (rp_s5 hr1 (upd (R 5) d (nI y)))
      have f3 : Frm h (ab_set h1 (x + 1 + 6 + 6) (.inl (0, 5, upd (R 5) d (nI y)))) (x + 1) 21 := (f1.wide (by omega) (by omega)).trans (f2.wide (by omega) (by omega))
      have eX : fn_X_sag x (nI d) (nI y) h = some (some (.int (bt1 sg d)), ab_set h1 (x + 1 + 6 + 6) (.inl (0, 5, upd (R 5) d (nI y)))) := by
        rw [q_X_sag, xx_c c1, x_isC W, cI_some, e, if_neg z10, x_isFlag, cI_some, e', if_neg z10, xx_0 c1, sc_c s1, e1, cV_some, xx_0 c2, sc_r t1, rp_r5 hr1, rp_l5 hr1 d5, xx_0 c2, sc_r t1, rp_r5 hr1, iast_at hr1.2.2.2.2.2.2.1 d5 (by decide)]
        exact congrArg (fun z => some (some (Value.int z), _)) (s3 5 (by decide) d hd)
      have em := W.mid f3 (by omega)
      generalize ab_set h1 (x + 1 + 6 + 6) (.inl (0, 5, upd (R 5) d (nI y))) = h2 at s2' f3 eX em
      obtain ⟨g, w, dl, e2, K⟩ := m_turn_sag (h := h2) (m := m) (I := I) (u := u) (v := v) G hd hy
      obtain ⟨u1, u2⟩ := K.ok G.1 G.2.2.2.2.2
      have S' : SceneAt h2 (x + 1) (Wl, n, ropU R 5 (upd (R 5) d (nI y)), nn, N, w + 1, (if un < 8 then pusU U un (nI a) (nI sg) (nI rs) else pusU (drpU U 7) 7 (nI a) (nI sg) (nI rs)), a) := by
        rw [← K.unN]
        exact s2'
      have g0 : ∀ k, k < 70 → k ≠ 5 → k ≠ 2 → upd g 2 (nI (nbN sg d y)) k = A 0 k := fun k h1 h2 h3 => (up_ne _ _ h3).trans (K.1 k h1 h2)
      have g1 : ∀ k, k ≠ 2 → upd g 2 (nI (nbN sg d y)) k = g k := fun k h => up_ne _ _ h
      obtain ⟨F0, F1, F2, F3, F4, F5, F6, F7⟩ := G.1
      have hlt := nb_lt n (by omega) sg F4 d hd y (by omega)
      have G' : Gd (upd g 2 (nI (nbN sg d y))) n a (nbN sg d y) rs nn (w + 1) := ⟨⟨F0, (g0 0 (by omega) (by omega) (by omega)).trans F1, F2, (g0 1 (by omega) (by omega) (by omega)).trans F3, hlt, up_at _ _ _, F6, (g0 3 (by omega) (by omega) (by omega)).trans F7⟩, G.2.1.cong (g0 4 (by omega) (by omega) (by omega)) (fun k h1 h2 => g0 k (by omega) (by omega) (by omega)), wo_cong G.2.2.1 (fun k h1 h2 => g0 k (by omega) (by omega) (by omega)), u1, (g1 5 (by omega)).trans K.2.1, un_cong u1 u2 (fun k h1 h2 => g1 k (by omega))⟩
      refine JI.mk eX em ?_ (W.now f3 ⟨_, _, _, _, S', we_cong s2 (fun k h1 h2 => g0 k (by omega) (by omega) (by omega)), ?_, nf_cong G.2.1.1 s4 (fun k h1 h2 => g0 k (by omega) (by omega) (by omega)), uf_cong u1 (K.uf G.1 s5) (fun k h1 h2 => g1 k (by omega))⟩ G' (KQ.refl _ I))
      · rw [q_M_sag, mc, m_isC G, cI_some, e, if_neg z10, m_wn _ 0 1 (by decide) (by decide), cI_some, e', if_neg z10, mc, e2, cI_some]
      · have s3' := re_cong s3 hn (g := upd g 2 (nI (nbN sg d y))) (fun k h1 h2 => g0 k (by omega) (by omega) (by omega))
        intro j hj i hi
        by_cases hj5 : j = 5
        · subst hj5
          rw [ropU_at]
          show upd (R 5) d (nI y) i = bt1 (nbN sg d y) i
          rw [nb_bit sg W.gd.1.sg32 d d5 y (by omega) i (by omega)]
          unfold upd
          split
          · rfl
          · exact s3 5 (by decide) i hi
        · rw [ropU_ne _ _ hj5, s3' j hj i hi]
          match j, hj with
          | 0, _ => rfl
          | 1, _ => rfl
          | 2, _ => rfl
          | 3, _ => rfl
          | 4, _ => rfl
          | 5, _ => exact absurd rfl hj5
          | 6, _ => rfl
          | k + 7, hj => omega
theorem m_turn_rest {h : ab_H} {m : Nat} {A : Nat → Nat → Int32} {I : Nat → Int32} {u v : Int64} {n a sg rs nn un : Nat} (G : Gd (A 0) n a sg rs nn un) {c b : Nat} (hc : c < n) (hb : b ≤ 1) : ∃ g w dl, fn_M_turn m (3 : Int32) (nI c) (nI b) (mH h m A I u v) = some (some (.int (bt1 rs c)), mH h m (ropU A 0 (upd g 3 (nI (nbN rs c b)))) I u v) ∧ Kpt (A 0) g un w dl := by
  have hn := G.1.1
  have hsg := G.1.sg32
  have hrs := G.1.rs32
  have e2 : A 0 3 = nI rs := G.1.2.2.2.2.2.2.2
  obtain ⟨g, w, dl, e1, K⟩ := m_keep (h := h) (m := m) (A := A) (I := I) (u := u) (v := v) rfl G.2.2.2.1 G.2.2.2.2.1
  have e3 : g 3 = nI rs := (K.1 3 (by decide) (by decide)).trans e2
  refine ⟨g, w, dl, ?_, K⟩
  rw [q_M_turn, mr_0, ml_0_3, e2, mc, e1, cV_some, mr_0, mr_0, ml_0_3, ropU_at, e3, bt_shr rs (by omega) c (by omega), or_bit rs (by omega) c (by omega), mr_0, ml_0_3, ropU_at, e3, nb_and rs (by omega) c (by omega), ma_0_3, ma_0_3, ropU_rr, ropU_rr, ropU_at]
  unfold nbN
  by_cases h1 : b = 1
  · subst h1
    rw [if_pos (show nI 1 = (1 : Int32) from rfl), if_pos rfl]
  · have h0 : b = 0 := by omega
    subst h0
    rw [if_neg (show ¬ nI 0 = (1 : Int32) by decide), if_neg h1]
theorem j_rest {h : ab_H} {x m : Nat} (J : JR ro h x m) (c b : Int32) : JI ro (fn_X_rest x c b h) (fun k => fn_M_rest m c b k) x m := by
  obtain ⟨A, I, u, v, L, n, a, sg, rs, nn, un, W⟩ := J
  have G := W.gd
  have c1 := W.cell
  have hn := G.1.1
  rcases inV_c c n G.1.1 with e | ⟨e, d, hd, rfl⟩
  · obtain ⟨h1, h2, e1, e2, e3, e4⟩ := j_bad W (-2)
    refine JI.mk (r := -2) ?_ e2 ?_ e4
    · rw [q_X_rest, xx_c c1, x_isC W, cI_some, e, if_pos rfl, xx_c c1, e1, cI_some]
    · rw [q_M_rest, mc, m_isC G, cI_some, e, if_pos rfl, mc, e3, cI_some]
  · rcases inV_d b 0 1 (by omega) (by omega) with e' | ⟨e', y, -, hy, rfl⟩
    · obtain ⟨h1, h2, e1, e2, e3, e4⟩ := j_bad W (-2)
      refine JI.mk (r := -2) ?_ e2 ?_ e4
      · rw [q_X_rest, xx_c c1, x_isC W, cI_some, e, if_neg z10, x_isFlag, cI_some, e', if_pos rfl, xx_c c1, e1, cI_some]
      · rw [q_M_rest, mc, m_isC G, cI_some, e, if_neg z10, m_wn b 0 1 (by decide) (by decide), cI_some, e', if_pos rfl, mc, e3, cI_some]
    · obtain ⟨Wl, R, N, U, s1, s2, s3, s4, s5⟩ := W.sc
      have d5 : d < 5 := by omega
      obtain ⟨h1, e1, t1, f1⟩ := s_remember (sm := sg) (rm := rs) s1 hn G.2.2.2.1 G.1.2.2.2.2.1 G.1.2.2.2.2.2.2.1 (fun i hi => s3 5 (by decide) i hi) (fun i hi => s3 6 (by decide) i hi)
      have hr1 : RopeAt h1 (x + 1 + 6) n R := t1.2.2.1
      have c2 : ab_get h1 x = some (.inr (10, xFs x u v (A 3))) := by rw [f1.2 _ (by omega)]; exact c1
      have f2 := Frm.set h1 (x + 1 + 6 + 7) (.inl (0, 5, upd (R 6) d (nI y)))
      have s2' := sc_uR t1 (f2.wide (by omega) (by omega)) (rp_s6 hr1 (upd (R 6) d (nI y)))
      have f3 : Frm h (ab_set h1 (x + 1 + 6 + 7) (.inl (0, 5, upd (R 6) d (nI y)))) (x + 1) 21 := (f1.wide (by omega) (by omega)).trans (f2.wide (by omega) (by omega))
      have eX : fn_X_rest x (nI d) (nI y) h = some (some (.int (bt1 rs d)), ab_set h1 (x + 1 + 6 + 7) (.inl (0, 5, upd (R 6) d (nI y)))) := by
        rw [q_X_rest, xx_c c1, x_isC W, cI_some, e, if_neg z10, x_isFlag, cI_some, e', if_neg z10, xx_0 c1, sc_c s1, e1, cV_some, xx_0 c2, sc_r t1, rp_r6 hr1, rp_l6 hr1 d5, xx_0 c2, sc_r t1, rp_r6 hr1, iast_at hr1.2.2.2.2.2.2.2 d5 (by decide)]
        exact congrArg (fun z => some (some (Value.int z), _)) (s3 6 (by decide) d hd)
      have em := W.mid f3 (by omega)
      generalize ab_set h1 (x + 1 + 6 + 7) (.inl (0, 5, upd (R 6) d (nI y))) = h2 at s2' f3 eX em
      obtain ⟨g, w, dl, e2, K⟩ := m_turn_rest (h := h2) (m := m) (I := I) (u := u) (v := v) G hd hy
      obtain ⟨u1, u2⟩ := K.ok G.1 G.2.2.2.2.2
      have S' : SceneAt h2 (x + 1) (Wl, n, ropU R 6 (upd (R 6) d (nI y)), nn, N, w + 1, (if un < 8 then pusU U un (nI a) (nI sg) (nI rs) else pusU (drpU U 7) 7 (nI a) (nI sg) (nI rs)), a) := by
        rw [← K.unN]
        exact s2'
      have g0 : ∀ k, k < 70 → k ≠ 5 → k ≠ 3 → upd g 3 (nI (nbN rs d y)) k = A 0 k := fun k h1 h2 h3 => (up_ne _ _ h3).trans (K.1 k h1 h2)
      have g1 : ∀ k, k ≠ 3 → upd g 3 (nI (nbN rs d y)) k = g k := fun k h => up_ne _ _ h
      obtain ⟨F0, F1, F2, F3, F4, F5, F6, F7⟩ := G.1
      have hlt := nb_lt n (by omega) rs F6 d hd y (by omega)
      have G' : Gd (upd g 3 (nI (nbN rs d y))) n a sg (nbN rs d y) nn (w + 1) := ⟨⟨F0, (g0 0 (by omega) (by omega) (by omega)).trans F1, F2, (g0 1 (by omega) (by omega) (by omega)).trans F3, F4, (g0 2 (by omega) (by omega) (by omega)).trans F5, hlt, up_at _ _ _⟩, G.2.1.cong (g0 4 (by omega) (by omega) (by omega)) (fun k h1 h2 => g0 k (by omega) (by omega) (by omega)), wo_cong G.2.2.1 (fun k h1 h2 => g0 k (by omega) (by omega) (by omega)), u1, (g1 5 (by omega)).trans K.2.1, un_cong u1 u2 (fun k h1 h2 => g1 k (by omega))⟩
      refine JI.mk eX em ?_ (W.now f3 ⟨_, _, _, _, S', we_cong s2 (fun k h1 h2 => g0 k (by omega) (by omega) (by omega)), ?_, nf_cong G.2.1.1 s4 (fun k h1 h2 => g0 k (by omega) (by omega) (by omega)), uf_cong u1 (K.uf G.1 s5) (fun k h1 h2 => g1 k (by omega))⟩ G' (KQ.refl _ I))
      · rw [q_M_rest, mc, m_isC G, cI_some, e, if_neg z10, m_wn _ 0 1 (by decide) (by decide), cI_some, e', if_neg z10, mc, e2, cI_some]
      · have s3' := re_cong s3 hn (g := upd g 3 (nI (nbN rs d y))) (fun k h1 h2 => g0 k (by omega) (by omega) (by omega))
        intro j hj i hi
        by_cases hj5 : j = 6
        · subst hj5
          rw [ropU_at]
          show upd (R 6) d (nI y) i = bt1 (nbN rs d y) i
          rw [nb_bit rs W.gd.1.rs32 d d5 y (by omega) i (by omega)]
          unfold upd
          split
          · rfl
          · exact s3 6 (by decide) i hi
        · rw [ropU_ne _ _ hj5, s3' j hj i hi]
          match j, hj with
          | 0, _ => rfl
          | 1, _ => rfl
          | 2, _ => rfl
          | 3, _ => rfl
          | 4, _ => rfl
          | 5, _ => rfl
          | 6, _ => exact absurd rfl hj5
          | k + 7, hj => omega
section
variable {h : ab_H} {x m : Nat}
theorem j_go (J : JR ro h x m) : JI ro (fn_X_go x h) (fun k => fn_M_go m k) x m := by
  obtain ⟨A, I, u, v, L, n, a, sg, rs, nn, un, W⟩ := J
  have G := W.gd
  have c1 := W.cell
  have hs := W.sc.sq
  have hn := G.1.1
  have ea : A 0 1 = nI a := G.1.2.2.2.1
  by_cases h8 : a < 8
  · obtain ⟨Wl, R, N, U, s1, s2, s3, s4, s5⟩ := W.sc
    obtain ⟨h1, e1, t1, f1⟩ := s_remember (sm := sg) (rm := rs) s1 hn G.2.2.2.1 G.1.2.2.2.2.1 G.1.2.2.2.2.2.2.1 (fun i hi => s3 5 (by decide) i hi) (fun i hi => s3 6 (by decide) i hi)
    have hr1 : RopeAt h1 (x + 1 + 6) n R := t1.2.2.1
    have c2 : ab_get h1 x = some (.inr (10, xFs x u v (A 3))) := by rw [f1.2 _ (by omega)]; exact c1
    have hri : RopeIs h1 (x + 1 + 6) n (RF (A 0) sg rs) := ⟨R, hr1, s3⟩
    have hwi : WallIs h1 (x + 1 + 1) (WF (A 0)) := ⟨Wl, t1.2.1, s2⟩
    obtain ⟨en, n1, n2⟩ := nx_is (n := n) (Q := RF (A 0) sg rs) G.2.2.1 h8
    have f2 := Frm.set h1 (x + 1) (.inr (3, [.ref (x + 1 + 1), .ref (x + 1 + 6), .ref (x + 1 + 14), .ref (x + 1 + 17), .int (nI (nxN n (RF (A 0) sg rs) (WF (A 0)) a))]))
    have t2 := sc_pa t1 (nxN n (RF (A 0) sg rs) (WF (A 0)) a)
    have c3 : ab_get (ab_set h1 (x + 1) (.inr (3, [.ref (x + 1 + 1), .ref (x + 1 + 6), .ref (x + 1 + 14), .ref (x + 1 + 17), .int (nI (nxN n (RF (A 0) sg rs) (WF (A 0)) a))]))) x = some (.inr (10, xFs x u v (A 3))) := by rw [f2.2 _ (by omega)]; exact c2
    have hr2 : RopeAt (ab_set h1 (x + 1) (.inr (3, [.ref (x + 1 + 1), .ref (x + 1 + 6), .ref (x + 1 + 14), .ref (x + 1 + 17), .int (nI (nxN n (RF (A 0) sg rs) (WF (A 0)) a))]))) (x + 1 + 6) n R := t2.2.2.1
    have e3 := s_setSags hr2 hn (m := 0) (by omega)
    rw [nI_0] at e3
    have f3 := Frm.set (ab_set h1 (x + 1) (.inr (3, [.ref (x + 1 + 1), .ref (x + 1 + 6), .ref (x + 1 + 14), .ref (x + 1 + 17), .int (nI (nxN n (RF (A 0) sg rs) (WF (A 0)) a))]))) (x + 1 + 6 + 6) (.inl (0, 5, btU 0 (R 5) n))
    have t3 := sc_uR t2 (f3.wide (by omega) (by omega)) (rope_set5 hr2 (btU 0 (R 5) n))
    have f4 : Frm h (ab_set (ab_set h1 (x + 1) (.inr (3, [.ref (x + 1 + 1), .ref (x + 1 + 6), .ref (x + 1 + 14), .ref (x + 1 + 17), .int (nI (nxN n (RF (A 0) sg rs) (WF (A 0)) a))]))) (x + 1 + 6 + 6) (.inl (0, 5, btU 0 (R 5) n))) (x + 1) 21 := ((f1.wide (by omega) (by omega)).trans (f2.wide (by omega) (by omega))).trans (f3.wide (by omega) (by omega))
    have c4 : ab_get (ab_set (ab_set h1 (x + 1) (.inr (3, [.ref (x + 1 + 1), .ref (x + 1 + 6), .ref (x + 1 + 14), .ref (x + 1 + 17), .int (nI (nxN n (RF (A 0) sg rs) (WF (A 0)) a))]))) (x + 1 + 6 + 6) (.inl (0, 5, btU 0 (R 5) n))) x = some (.inr (10, xFs x u v (A 3))) := by rw [f4.2 _ (by omega)]; exact c1
    have eX : fn_X_go x h = some (some (.int (nI (nxN n (RF (A 0) sg rs) (WF (A 0)) a))), ab_set (ab_set h1 (x + 1) (.inr (3, [.ref (x + 1 + 1), .ref (x + 1 + 6), .ref (x + 1 + 14), .ref (x + 1 + 17), .int (nI (nxN n (RF (A 0) sg rs) (WF (A 0)) a))]))) (x + 1 + 6 + 6) (.inl (0, 5, btU 0 (R 5) n))) := by
      rw [q_X_go, xx_0 c1, sq_a hs, if_pos (show nI a < (8 : Int32) from nI_lt (b := 8) h8 (by decide)), xx_0 c1, sc_c s1, e1, cV_some, xx_0 c2, xx_0 c2, sc_r t1, xx_0 c2, sc_w t1, xx_0 c2, sc_a t1, rp_c hr1]
      show (ab_cI (fn_Rope_next (x + 1 + 6) (x + 1 + 1) (nI a) h1) _) = _
      rw [t_next hri hwi hn h8, cI_some, en, sc_p t1, xx_0 c3, sc_r t2, rp_c hr2, e3, cV_some, xx_0 c4, sc_a t3]
    have em := W.mid f4 (by omega)
    generalize ab_set (ab_set h1 (x + 1) (.inr (3, [.ref (x + 1 + 1), .ref (x + 1 + 6), .ref (x + 1 + 14), .ref (x + 1 + 17), .int (nI (nxN n (RF (A 0) sg rs) (WF (A 0)) a))]))) (x + 1 + 6 + 6) (.inl (0, 5, btU 0 (R 5) n)) = h2 at t3 f4 eX em
    obtain ⟨A1, I1, e4, l1, k1⟩ := G.1.lay (h := h2) (m := m) (u := u) (v := v) (I := I) rfl
    obtain ⟨g, w, dl, e5, K⟩ := m_keep (h := h2) (m := m) (A := A1) (I := I1) (u := u) (v := v) l1.1 G.2.2.2.1 G.2.2.2.2.1
    obtain ⟨u1, u2⟩ := K.ok G.1 G.2.2.2.2.2
    have l2 : Lay g n n idN (fK (A 0)) (fS (A 0)) sg rs (ropU A1 0 g) I1 := ⟨rfl, l1.2.1, l1.2.2.1, l1.2.2.2.1, l1.2.2.2.2.1, l1.2.2.2.2.2⟩
    have hnx := m_nextOf (h := h2) (m := m) (u := u) (v := v) l2 hn hn (by have := G.1.sg32; omega) (by have := G.1.rs32; omega) h8
    have hq : nxtR n (mQ g idN (fK (A 0)) (fS (A 0)) sg rs) (WF g) a = nI (nxN n (RF (A 0) sg rs) (WF (A 0)) a) := by
      rw [← en]
      refine nxtR_cong hn ?_ (fun j hj p hp => K.1 _ (by omega) (by omega)) h8
      intro j hj i hi
      match j, hj with
      | 0, _ => rfl
      | 1, _ => rfl
      | 2, _ => exact K.1 _ (show 38 + 4 * i + 1 < 70 by omega) (by show 38 + 4 * i + 1 ≠ 5; omega)
      | 3, _ => rfl
      | 4, _ => exact K.1 _ (show 38 + 4 * i + 3 < 70 by omega) (by show 38 + 4 * i + 3 ≠ 5; omega)
      | 5, _ => rfl
      | 6, _ => rfl
      | k + 7, hj => omega
    have eg1 : g 1 = nI a := (K.1 1 (by decide) (by decide)).trans ea
    have hM : fn_M_go m (mH h2 m A I u v) = some (some (.int (nI (nxN n (RF (A 0) sg rs) (WF (A 0)) a))), mH h2 m (ropU A1 0 (upd (upd g 1 (nI (nxN n (RF (A 0) sg rs) (WF (A 0)) a))) 2 0)) I1 u v) := by
      rw [q_M_go, mr_0, ml_0_1, ea, if_neg (show ¬ nI a = (8 : Int32) from fun z => by have := (nI_eq (b := 8) (by omega) (by decide)).mp z; omega), mc, e4, cV_some, mc, e5, cV_some, mr_0, mr_0, ml_0_1, ropU_at, eg1, mc, hnx, cI_some, hq, ma_0_1, ropU_rr, ropU_at, mr_0, ma_0_2, ropU_rr, ropU_at, mr_0, ml_0_1, ropU_at, up_ne _ _ (by decide), up_at]
    have g0 : ∀ k, k < 70 → k ≠ 5 → k ≠ 1 → k ≠ 2 → upd (upd g 1 (nI (nxN n (RF (A 0) sg rs) (WF (A 0)) a))) 2 0 k = A 0 k := fun k h1 h2 h3 h4 => ((up_ne _ _ h4).trans (up_ne _ _ h3)).trans (K.1 k h1 h2)
    have g1 : ∀ k, k ≠ 1 → k ≠ 2 → upd (upd g 1 (nI (nxN n (RF (A 0) sg rs) (WF (A 0)) a))) 2 0 k = g k := fun k h3 h4 => (up_ne _ _ h4).trans (up_ne _ _ h3)
    have g2 : upd (upd g 1 (nI (nxN n (RF (A 0) sg rs) (WF (A 0)) a))) 2 0 1 = nI (nxN n (RF (A 0) sg rs) (WF (A 0)) a) := (up_ne _ _ (by decide)).trans (up_at _ _ _)
    have g3 : upd (upd g 1 (nI (nxN n (RF (A 0) sg rs) (WF (A 0)) a))) 2 0 2 = nI 0 := (up_at _ _ _).trans nI_0.symm
    generalize upd (upd g 1 (nI (nxN n (RF (A 0) sg rs) (WF (A 0)) a))) 2 0 = gg at hM g0 g1 g2 g3
    have S' : SceneAt h2 (x + 1) (Wl, n, ropU R 5 (btU 0 (R 5) n), nn, N, w + 1, (if un < 8 then pusU U un (nI a) (nI sg) (nI rs) else pusU (drpU U 7) 7 (nI a) (nI sg) (nI rs)), nxN n (RF (A 0) sg rs) (WF (A 0)) a) := by
      rw [← K.unN]
      exact t3
    obtain ⟨F0, F1, F2, F3, F4, F5, F6, F7⟩ := G.1
    have G' : Gd gg n (nxN n (RF (A 0) sg rs) (WF (A 0)) a) 0 rs nn (w + 1) := ⟨⟨F0, (g0 0 (by omega) (by omega) (by omega) (by omega)).trans F1, n2, g2, Nat.pow_pos (by decide), g3, F6, (g0 3 (by omega) (by omega) (by omega) (by omega)).trans F7⟩, G.2.1.cong (g0 4 (by omega) (by omega) (by omega) (by omega)) (fun k h1 h2 => g0 k (by omega) (by omega) (by omega) (by omega)), wo_cong G.2.2.1 (fun k h1 h2 => g0 k (by omega) (by omega) (by omega) (by omega)), u1, (g1 5 (by omega) (by omega)).trans K.2.1, un_cong u1 u2 (fun k h1 h2 => g1 k (by omega) (by omega))⟩
    have kk : KQ (ropU A 0 gg) I (ropU A1 0 gg) I1 := ⟨rfl, k1.2.1, k1.2.2.1, k1.2.2.2.1, k1.2.2.2.2.1, k1.2.2.2.2.2⟩
    refine JI.mk eX em hM (W.now f4 ⟨_, _, _, _, S', we_cong s2 (fun k h1 h2 => g0 k (by omega) (by omega) (by omega) (by omega)), ?_, nf_cong G.2.1.1 s4 (fun k h1 h2 => g0 k (by omega) (by omega) (by omega) (by omega)), uf_cong u1 (K.uf W.gd.1 s5) (fun k h1 h2 => g1 k (by omega) (by omega))⟩ G' kk)
    have s3' := re_cong s3 hn (g := gg) (fun k h1 h2 => g0 k (by omega) (by omega) (by omega) (by omega))
    intro j hj i hi
    by_cases hj5 : j = 5
    · subst hj5
      rw [ropU_at]
      show btU 0 (R 5) n i = bt1 0 i
      unfold btU
      rw [if_pos hi]
    · rw [ropU_ne _ _ hj5, s3' j hj i hi]
      match j, hj with
      | 0, _ => rfl
      | 1, _ => rfl
      | 2, _ => rfl
      | 3, _ => rfl
      | 4, _ => rfl
      | 5, _ => exact absurd rfl hj5
      | 6, _ => rfl
      | k + 7, hj => omega
  · have h8' : a = 8 := by have := G.1.2.2.1; omega
    obtain ⟨h1, h2, e1, e2, e3, e4⟩ := j_no W
    refine JI.mk (r := -3) ?_ e2 ?_ e4
    · rw [q_X_go, xx_0 c1, sq_a hs, if_neg (show ¬ nI a < (8 : Int32) from nI_nlt (b := 8) (by omega) (by omega)), xx_c c1, e1, cI_some]
    · rw [q_M_go, mr_0, ml_0_1, ea, if_pos (show nI a = (8 : Int32) by rw [h8']; rfl), mc, e3, cI_some]
end
end
