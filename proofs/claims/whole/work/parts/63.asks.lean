/-! both sides: questions -/
section
variable {ro : Nat → Option ab_Ce}
def JI (ro : Nat → Option ab_Ce) (X : Option ab_R) (M : ab_H → Option ab_R) (x m : Nat) : Prop := ∃ r h1 h2, X = some (some (.int r), h1) ∧ M h1 = some (some (.int r), h2) ∧ JR ro h2 x m ∧ (∃ A I u v, h1 = mH h1 m A I u v) ∧ ab_get h1 0 = ro 0
theorem JR.ro0 {h1 : ab_H} {x m : Nat} {B : Nat → Nat → Int32} {K : Nat → Int32} {u v : Int64} (J : JR ro (mH h1 m B K u v) x m) : ab_get h1 0 = ro 0 := by
  obtain ⟨A, I, u', v', L, n, a, sg, rs, nn, un, W⟩ := J
  have h1' := W.2.1
  have h2 := W.2.2.1
  rw [← h2.2.2 0 (by omega)]
  exact ((mH_frm h1 m B K u v).2 0 (by have := h2.2.1; omega)).symm
theorem JI.mk {X : Option ab_R} {M : ab_H → Option ab_R} {x m : Nat} {r : Int32} {h1 : ab_H} {A B : Nat → Nat → Int32} {I K : Nat → Int32} {u v u' v' : Int64} (eX : X = some (some (.int r), h1)) (em : h1 = mH h1 m A I u v) (eM : M (mH h1 m A I u v) = some (some (.int r), mH h1 m B K u' v')) (J : JR ro (mH h1 m B K u' v') x m) : JI ro X M x m := ⟨r, h1, _, eX, (congrArg M em).trans eM, J, ⟨A, I, u, v, em⟩, J.ro0⟩
theorem z10 : ¬ (1 : Int32) = 0 := by decide
theorem x_wn (x : Int32) (a b : Nat) {lo hi : Int32} (e1 : lo = nI a) (e2 : hi = nI b) (h : ab_H) : fn_X_within x lo hi h = some (some (.int (inV x (nI a) (nI b))), h) := by
  subst e1
  subst e2
  exact x_in _ _ _ h
theorem m_wn (x : Int32) (a b : Nat) {lo hi : Int64} (e1 : lo = (nI a).toInt64) (e2 : hi = (nI b).toInt64) (h : ab_H) : fn_M_in x.toInt64 lo hi h = some (some (.int (inV x (nI a) (nI b))), h) := m_in x (nI a) (nI b) e1 e2 h
section
variable {h : ab_H} {x m : Nat} {A : Nat → Nat → Int32} {I : Nat → Int32} {u v : Int64} {L n a sg rs nn un : Nat}
theorem JW.sc (W : JW ro h x m A I u v L n a sg rs nn un) : ScIs h (x + 1) (A 0) n a sg rs nn un := W.2.2.2.2.2.1.2.1
theorem JW.gd (W : JW ro h x m A I u v L n a sg rs nn un) : Gd (A 0) n a sg rs nn un := W.2.2.2.2.2.2.2
theorem JW.qs (W : JW ro h x m A I u v L n a sg rs nn un) : QS h x := W.2.2.2.2.2.2.1
theorem x_isC (W : JW ro h x m A I u v L n a sg rs nn un) (y : Int32) : fn_X_isClimber x y h = some (some (.int (inV y (nI 0) (nI n - 1))), h) := by
  rw [q_X_isClimber, xx_0 W.cell, sq_r W.sc.sq, ri_n W.sc.sq.2.2, x_in, cI_some, chk_in]
  rfl
theorem m_isC (G : Gd (A 0) n a sg rs nn un) (y : Int32) : fn_M_isClimber m y (mH h m A I u v) = some (some (.int (inV y (nI 0) (nI n - 1))), mH h m A I u v) := m_isClimber y G.1.2.1
end
section
variable {h : ab_H} {x m : Nat}
theorem j_says (J : JR ro h x m) (p : Int32) : JI ro (fn_X_says x p h) (fun k => fn_M_says m p k) x m := by
  obtain ⟨A, I, u, v, L, n, a, sg, rs, nn, un, W⟩ := J
  have G := W.gd
  have hs := W.sc.sq
  rcases inV_d p 0 7 (by omega) (by omega) with e | ⟨e, k, -, hk, rfl⟩
  · obtain ⟨h1, h2, e1, e2, e3, e4⟩ := j_bad W (-10)
    refine JI.mk (r := -10) ?_ e2 ?_ e4
    · rw [q_X_says, x_isPitch, cI_some, e, if_pos rfl, xx_c W.cell, e1, cI_some]
    · rw [q_M_says, m_isPitch, cI_some, e, if_pos rfl, mc, e3, cI_some]
  · obtain ⟨A1, I1, e1, l1, k1⟩ := G.1.lay (h := h) (m := m) (u := u) (v := v) (I := I) rfl
    refine JI.mk (r := sayR n (RF (A 0) sg rs) (WF (A 0)) k) ?_ W.1 ?_ (W.here k1)
    · rw [q_X_says, x_isPitch, cI_some, e, if_neg z10, xx_0 W.cell, sq_r hs, xx_0 W.cell, sq_w hs, ri_c hs.2.2, t_sayer hs.2.2 hs.2.1 G.1.1 (by omega), cI_some]
    · rw [q_M_says, m_isPitch, cI_some, e, if_neg z10, mc, e1, cV_some, mc, m_sayer l1 G.1.1 G.1.1 (by have := G.1.sg32; omega) (by have := G.1.rs32; omega) (by omega), cI_some]
      rfl
theorem j_canSay (J : JR ro h x m) (p : Int32) : JI ro (fn_X_canSay x p h) (fun k => fn_M_canSay m p k) x m := by
  obtain ⟨A, I, u, v, L, n, a, sg, rs, nn, un, W⟩ := J
  have G := W.gd
  have hs := W.sc.sq
  rcases inV_d p 0 7 (by omega) (by omega) with e | ⟨e, k, -, hk, rfl⟩
  · obtain ⟨h1, h2, e1, e2, e3, e4⟩ := j_bad W (-2)
    refine JI.mk (r := -2) ?_ e2 ?_ e4
    · rw [q_X_canSay, x_isPitch, cI_some, e, if_pos rfl, xx_c W.cell, e1, cI_some]
    · rw [q_M_canSay, m_isPitch, cI_some, e, if_pos rfl, mc, e3, cI_some]
  · obtain ⟨h1, e1, r1, f1⟩ := t_ofAll (v := x + 89) (p := k) W.qs.1 W.qs.2.1 hs G.1.1 (by omega) (by omega)
    obtain ⟨A1, I1, e2, k1⟩ := m_canAt (h := h1) (m := m) (u := u) (v := v) (I := I) G.1 rfl (p := k) (by omega)
    refine JI.mk (r := canV n (RF (A 0) sg rs) (WF (A 0)) k) ?_ (W.mid f1 (by omega)) ?_ (W.ask f1 (by omega) (W.qs.vo f1 r1) k1)
    · rw [q_X_canSay, x_isPitch, cI_some, e, if_neg z10, xx_5 W.cell, xx_0 W.cell, vo_c W.qs.1, e1, cI_some]
    · rw [q_M_canSay, m_isPitch, cI_some, e, if_neg z10, mc, e2, cI_some]
theorem j_mine (J : JR ro h x m) (c : Int32) : JI ro (fn_X_mine x c h) (fun k => fn_M_mine m c k) x m := by
  obtain ⟨A, I, u, v, L, n, a, sg, rs, nn, un, W⟩ := J
  have G := W.gd
  have hs := W.sc.sq
  rcases inV_c c n G.1.1 with e | ⟨e, k, hk, rfl⟩
  · obtain ⟨h1, h2, e1, e2, e3, e4⟩ := j_bad W (-2)
    refine JI.mk (r := -2) ?_ e2 ?_ e4
    · rw [q_X_mine, xx_c W.cell, x_isC W, cI_some, e, if_pos rfl, xx_c W.cell, e1, cI_some]
    · rw [q_M_mine, mc, m_isC G, cI_some, e, if_pos rfl, mc, e3, cI_some]
  · obtain ⟨h1, e1, r1, f1⟩ := t_never (v := x + 89) (c := k) W.qs.1 W.qs.2.1 hs G.1.1 (by omega)
    obtain ⟨A1, I1, e2, k1⟩ := m_mine_loop (h := h1) (m := m) (u := u) (v := v) G.1 k 8 0 0 A I (by omega) rfl
    rw [nI_0] at e2
    refine JI.mk (r := nevV n (RF (A 0) sg rs) (WF (A 0)) k) ?_ (W.mid f1 (by omega)) ?_ (W.ask f1 (by omega) (W.qs.vo f1 r1) k1)
    · rw [q_X_mine, xx_c W.cell, x_isC W, cI_some, e, if_neg z10, xx_5 W.cell, xx_0 W.cell, vo_c W.qs.1, e1, cI_some]
    · rw [q_M_mine, mc, m_isC G, cI_some, e, if_neg z10, e2]
      rfl
theorem j_walls (J : JR ro h x m) (s t p : Int32) : JI ro (fn_X_walls x s t p h) (fun k => fn_M_walls m s t p k) x m := by
  obtain ⟨A, I, u, v, L, n, a, sg, rs, nn, un, W⟩ := J
  have G := W.gd
  have hs := W.sc.sq
  rcases inV_d s 0 999999 (by omega) (by omega) with e | ⟨e, k, -, hk, rfl⟩
  · obtain ⟨h1, h2, e1, e2, e3, e4⟩ := j_bad W (-2)
    refine JI.mk (r := -2) ?_ e2 ?_ e4
    · rw [q_X_walls, x_wn s 0 999999 (by decide) (by decide), cI_some, e, if_pos rfl, xx_c W.cell, e1, cI_some]
    · rw [q_M_walls, m_wn s 0 999999 (by decide) (by decide), cI_some, e, if_pos rfl, mc, e3, cI_some]
  · rcases inV_d t 0 60 (by omega) (by omega) with e' | ⟨e', T, -, hT, rfl⟩
    · obtain ⟨h1, h2, e1, e2, e3, e4⟩ := j_bad W (-2)
      refine JI.mk (r := -2) ?_ e2 ?_ e4
      · rw [q_X_walls, x_wn _ 0 999999 (by decide) (by decide), cI_some, e, if_neg z10, x_wn t 0 60 (by decide) (by decide), cI_some, e', if_pos rfl, xx_c W.cell, e1, cI_some]
      · rw [q_M_walls, m_wn _ 0 999999 (by decide) (by decide), cI_some, e, if_neg z10, m_wn t 0 60 (by decide) (by decide), cI_some, e', if_pos rfl, mc, e3, cI_some]
    · rcases inV_d p 0 8 (by omega) (by omega) with e'' | ⟨e'', q, -, hq, rfl⟩
      · obtain ⟨h1, h2, e1, e2, e3, e4⟩ := j_bad W (-2)
        refine JI.mk (r := -2) ?_ e2 ?_ e4
        · rw [q_X_walls, x_wn _ 0 999999 (by decide) (by decide), cI_some, e, if_neg z10, x_wn _ 0 60 (by decide) (by decide), cI_some, e', if_neg z10, x_wn p 0 8 (by decide) (by decide), cI_some, e'', if_pos rfl, xx_c W.cell, e1, cI_some]
        · rw [q_M_walls, m_wn _ 0 999999 (by decide) (by decide), cI_some, e, if_neg z10, m_wn _ 0 60 (by decide) (by decide), cI_some, e', if_neg z10, m_wn p 0 8 (by decide) (by decide), cI_some, e'', if_pos rfl, mc, e3, cI_some]
      · obtain ⟨k0, F0, S0, hy⟩ := W.qs.2.2.1
        obtain ⟨h1, e1, r1, f1⟩ := t_timesBy (nI q) (T := T) (X := k) hy W.qs.2.2.2.1 hs G.1.1 G.2.2.1 hT G.1.2.2.1 (by omega) (by omega)
        obtain ⟨A1, I1, e2, l1, k1⟩ := G.1.lay (h := h1) (m := m) (u := u) (v := v) (I := I) rfl
        obtain ⟨I2, e3, k2⟩ := m_tm_loop (h := h1) (m := m) (u := u) (v := v) G.1 G.2.2.1 (nI k) (nI q) hT T 0 k 0 none none sg I1 (by omega) (by omega) l1
        rw [nI_0] at e3
        refine JI.mk (r := tmL n (WF (A 0)) (RF (A 0) sg rs) a (nI q) T k 0) ?_ (W.mid f1 (by omega)) ?_ (W.ask f1 (by omega) (W.qs.wy (f1.wide (by omega) (by omega)) (hy.frm f1 (by omega)) r1) (k1.trans k2))
        · rw [q_X_walls, x_wn _ 0 999999 (by decide) (by decide), cI_some, e, if_neg z10, x_wn _ 0 60 (by decide) (by decide), cI_some, e', if_neg z10, x_wn _ 0 8 (by decide) (by decide), cI_some, e'', if_neg z10, xx_6 W.cell, xx_0 W.cell, wy_c hy, e1, cI_some]
        · rw [q_M_walls, m_wn _ 0 999999 (by decide) (by decide), cI_some, e, if_neg z10, m_wn _ 0 60 (by decide) (by decide), cI_some, e', if_neg z10, m_wn _ 0 8 (by decide) (by decide), cI_some, e'', if_neg z10, mc, e2, cV_some, nI_l (by omega), e3]
theorem j_rests (J : JR ro h x m) (c d : Int32) : JI ro (fn_X_rests x c d h) (fun k => fn_M_rests m c d k) x m := by
  obtain ⟨A, I, u, v, L, n, a, sg, rs, nn, un, W⟩ := J
  have G := W.gd
  have hs := W.sc.sq
  rcases inV_c c n G.1.1 with e | ⟨e, p, hp, rfl⟩
  · obtain ⟨h1, h2, e1, e2, e3, e4⟩ := j_bad W (-2)
    refine JI.mk (r := -2) ?_ e2 ?_ e4
    · rw [q_X_rests, xx_c W.cell, x_isC W, cI_some, e, if_pos rfl, xx_c W.cell, e1, cI_some]
    · rw [q_M_rests, mc, m_isC G, cI_some, e, if_pos rfl, mc, e3, cI_some]
  · rcases inV_c d n G.1.1 with e' | ⟨e', q, hq, rfl⟩
    · obtain ⟨h1, h2, e1, e2, e3, e4⟩ := j_bad W (-2)
      refine JI.mk (r := -2) ?_ e2 ?_ e4
      · rw [q_X_rests, xx_c W.cell, x_isC W, cI_some, e, if_neg z10, xx_c W.cell, x_isC W, cI_some, e', if_pos rfl, xx_c W.cell, e1, cI_some]
      · rw [q_M_rests, mc, m_isC G, cI_some, e, if_neg z10, mc, m_isC G, cI_some, e', if_pos rfl, mc, e3, cI_some]
    · by_cases hpq : p = q
      · subst hpq
        obtain ⟨h1, h2, e1, e2, e3, e4⟩ := j_bad W (-2)
        refine JI.mk (r := -2) ?_ e2 ?_ e4
        · rw [q_X_rests, xx_c W.cell, x_isC W, cI_some, e, if_neg z10, xx_c W.cell, x_isC W, cI_some, e', if_neg z10, if_pos rfl, xx_c W.cell, e1, cI_some]
        · rw [q_M_rests, mc, m_isC G, cI_some, e, if_neg z10, mc, m_isC G, cI_some, e', if_neg z10, if_pos rfl, mc, e3, cI_some]
      · have hne : ¬ nI p = nI q := fun z => hpq ((nI_eq (by have := G.1.1; omega) (by have := G.1.1; omega)).mp z)
        have ea : A 0 1 = nI a := G.1.2.2.2.1
        by_cases h8 : a < 8
        · obtain ⟨h1, e1, r1, f1⟩ := t_resting (v := x + 89) W.qs.1 W.qs.2.1 hs G.1.1 h8 hp hq (by omega)
          obtain ⟨A1, I1, e2, k1⟩ := m_rests (h := h1) (m := m) (u := u) (v := v) (I := I) G.1 h8 hp hq hpq rfl
          refine JI.mk (r := rstV n (RF (A 0) sg rs) (WF (A 0)) a p q) ?_ (W.mid f1 (by omega)) ?_ (W.ask f1 (by omega) (W.qs.vo f1 r1) k1)
          · rw [q_X_rests, xx_c W.cell, x_isC W, cI_some, e, if_neg z10, xx_c W.cell, x_isC W, cI_some, e', if_neg z10, if_neg hne, xx_0 W.cell, sq_a hs, if_pos (show nI a < (8 : Int32) from nI_lt (b := 8) h8 (by decide)), xx_5 W.cell, xx_0 W.cell, vo_c W.qs.1, e1, cI_some]
          · rw [q_M_rests, mc, m_isC G, cI_some, e, if_neg z10, mc, m_isC G, cI_some, e', if_neg z10, if_neg hne, mr_0, ml_0_1, ea, if_neg (show ¬ nI a = (8 : Int32) from fun z => by have := (nI_eq (b := 8) (by omega) (by decide)).mp z; omega), mc, e2]
        · have h8' : a = 8 := by have := G.1.2.2.1; omega
          obtain ⟨h1, h2, e1, e2, e3, e4⟩ := j_no W
          refine JI.mk (r := -3) ?_ e2 ?_ e4
          · rw [q_X_rests, xx_c W.cell, x_isC W, cI_some, e, if_neg z10, xx_c W.cell, x_isC W, cI_some, e', if_neg z10, if_neg hne, xx_0 W.cell, sq_a hs, if_neg (show ¬ nI a < (8 : Int32) from nI_nlt (b := 8) (by omega) (by omega)), xx_c W.cell, e1, cI_some]
          · rw [q_M_rests, mc, m_isC G, cI_some, e, if_neg z10, mc, m_isC G, cI_some, e', if_neg z10, if_neg hne, mr_0, ml_0_1, ea, if_pos (show nI a = (8 : Int32) by rw [h8']; rfl), mc, e3, cI_some]
end
end
