/-! both sides: stones, kinds, look; hangs, of, status, count, part -/
section
variable {ro : Nat → Option ab_Ce}
theorem soL_cong {n nn : Nat} {R V N N' : Nat → Nat → Int32} (e : ∀ j, j < 2 → ∀ i, i < nn → N j i = N' j i) : ∀ (k i : Nat), i + k ≤ nn → soL n R V N k i = soL n R V N' k i
  | 0, _, _ => rfl
  | k + 1, i, hi => by
    rw [soL, soL, e 0 (by decide) i (by omega), e 1 (by decide) i (by omega), soL_cong e k (i + 1) (by omega)]
theorem fitL_cong {n nn : Nat} {Z V N N' : Nat → Nat → Int32} (e : ∀ j, j < 2 → ∀ i, i < nn → N j i = N' j i) (j c : Nat) : ∀ (d i : Nat) (acc : Int32), fitL n Z V N nn j c d i acc = fitL n Z V N' nn j c d i acc
  | 0, _, _ => rfl
  | d + 1, i, acc => by
    rw [fitL, fitL, soL_cong e nn 0 (by omega), fitL_cong e j c d (i + 1)]
section
variable {h : ab_H} {x m : Nat} {A : Nat → Nat → Int32} {I : Nat → Int32} {u v : Int64} {L n a sg rs nn un : Nat}
theorem JW.nt (W : JW ro h x m A I u v L n a sg rs nn un) : ∃ N, SG h (x + 1) (WF (A 0)) n (RF (A 0) sg rs) a nn N ∧ NtOk nn N ∧ (∀ j, j < 2 → ∀ i, i < nn → N j i = NF (A 0) j i) := by
  have hs := W.sc.sq
  obtain ⟨Wl, R, N, U, s1, s2, s3, s4, s5⟩ := W.sc
  refine ⟨N, ⟨hs, s1.2.2.2.1⟩, ⟨W.gd.2.1.1, fun i hi => ?_⟩, s4⟩
  obtain ⟨p, hp, ep⟩ := W.gd.2.1.2.2 i hi
  exact ⟨p, hp, (s4 0 (by decide) i hi).trans ep⟩
end
section
variable {h : ab_H} {x m : Nat}
theorem j_stones (J : JR ro h x m) (c : Int32) : JI ro (fn_X_stones x c h) (fun k => fn_M_stones m c k) x m := by
  obtain ⟨A, I, u, v, L, n, a, sg, rs, nn, un, W⟩ := J
  have G := W.gd
  have hs := W.sc.sq
  rcases inV_c c n G.1.1 with e | ⟨e, p, hp, rfl⟩
  · obtain ⟨h1, h2, e1, e2, e3, e4⟩ := j_bad W (-2)
    refine JI.mk (r := -2) ?_ e2 ?_ e4
    · rw [q_X_stones, xx_c W.cell, x_isC W, cI_some, e, if_pos rfl, xx_c W.cell, e1, cI_some]
    · rw [q_M_stones, mc, m_isC G, cI_some, e, if_pos rfl, mc, e3, cI_some]
  · obtain ⟨N, hN1, hN2, hN3⟩ := W.nt
    obtain ⟨h1, g1, e1, -, r1, f1⟩ := t_fitStones (g := x + 120) W.qs.2.2.2.2.2.2.1 hN1 W.qs.2.2.2.2.2.2.2 G.1.1 hN2 hp (by omega)
    obtain ⟨A1, I1, T, e2, -, -, k1⟩ := m_stonesOf (h := h1) (m := m) (u := u) (v := v) (I := I) G.1 G.2.1 rfl hp
    rw [fitL_cong hN3] at e1
    refine JI.mk (r := fitL n (ropU (RF (A 0) sg rs) 5 (bt1 0)) (WF (A 0)) (NF (A 0)) nn 3 p 10 0 0) ?_ (W.mid f1 (by omega)) ?_ (W.ask f1 (by omega) (W.qs.gu f1 ⟨_, _, r1⟩) k1)
    · rw [q_X_stones, xx_c W.cell, x_isC W, cI_some, e, if_neg z10, xx_8 W.cell, xx_0 W.cell, gu_c W.qs.2.2.2.2.2.2.1, e1, cI_some]
    · rw [q_M_stones, mc, m_isC G, cI_some, e, if_neg z10, mc, e2, cI_some]
theorem j_is (J : JR ro h x m) (c : Int32) : JI ro (fn_X_is x c h) (fun k => fn_M_is m c k) x m := by
  obtain ⟨A, I, u, v, L, n, a, sg, rs, nn, un, W⟩ := J
  have G := W.gd
  have hs := W.sc.sq
  rcases inV_c c n G.1.1 with e | ⟨e, p, hp, rfl⟩
  · obtain ⟨h1, h2, e1, e2, e3, e4⟩ := j_bad W (-2)
    refine JI.mk (r := -2) ?_ e2 ?_ e4
    · rw [q_X_is, xx_c W.cell, x_isC W, cI_some, e, if_pos rfl, xx_c W.cell, e1, cI_some]
    · rw [q_M_is, mc, m_isC G, cI_some, e, if_pos rfl, mc, e3, cI_some]
  · obtain ⟨N, hN1, hN2, hN3⟩ := W.nt
    obtain ⟨h1, g1, e1, -, r1, f1⟩ := t_fitKinds (g := x + 120) W.qs.2.2.2.2.2.2.1 hN1 W.qs.2.2.2.2.2.2.2 G.1.1 hN2 hp (by omega)
    obtain ⟨A1, I1, e2, k1⟩ := m_kindsOf (h := h1) (m := m) (u := u) (v := v) (I := I) G.1 G.2.1 rfl hp
    rw [fitL_cong hN3] at e1
    refine JI.mk (r := fitL n (ropU (RF (A 0) sg rs) 5 (bt1 0)) (WF (A 0)) (NF (A 0)) nn 1 p 6 0 0) ?_ (W.mid f1 (by omega)) ?_ (W.ask f1 (by omega) (W.qs.gu f1 ⟨_, _, r1⟩) k1)
    · rw [q_X_is, xx_c W.cell, x_isC W, cI_some, e, if_neg z10, xx_8 W.cell, xx_0 W.cell, gu_c W.qs.2.2.2.2.2.2.1, e1, cI_some]
    · rw [q_M_is, mc, m_isC G, cI_some, e, if_neg z10, mc, e2]
theorem j_look (J : JR ro h x m) (c : Int32) : JI ro (fn_X_look x c h) (fun k => fn_M_look m c k) x m := by
  obtain ⟨A, I, u, v, L, n, a, sg, rs, nn, un, W⟩ := J
  have G := W.gd
  have hs := W.sc.sq
  rcases inV_c c n G.1.1 with e | ⟨e, p, hp, rfl⟩
  · obtain ⟨h1, h2, e1, e2, e3, e4⟩ := j_bad W (-2)
    refine JI.mk (r := -2) ?_ e2 ?_ e4
    · rw [q_X_look, xx_c W.cell, x_isC W, cI_some, e, if_pos rfl, xx_c W.cell, e1, cI_some]
    · rw [q_M_look, mc, m_isC G, cI_some, e, if_pos rfl, mc, e3, cI_some]
  · obtain ⟨N, hN1, hN2, hN3⟩ := W.nt
    obtain ⟨h1, e1, r1, f1⟩ := t_telling (g := x + 120) W.qs.2.2.2.2.2.2.1 hN1 W.qs.2.2.2.2.2.2.2 G.1.1 hN2 hp (by omega)
    obtain ⟨A1, I1, e2, k1⟩ := m_look (h := h1) (m := m) (u := u) (v := v) (I := I) G.1 G.2.1 rfl hp
    rw [fitL_cong hN3] at e1
    refine JI.mk (r := telV n (ropU (RF (A 0) sg rs) 5 (bt1 0)) (WF (A 0)) p (fitL n (ropU (RF (A 0) sg rs) 5 (bt1 0)) (WF (A 0)) (NF (A 0)) nn 3 p 10 0 0)) ?_ (W.mid f1 (by omega)) ?_ (W.ask f1 (by omega) (W.qs.gu f1 r1) k1)
    · rw [q_X_look, xx_c W.cell, x_isC W, cI_some, e, if_neg z10, xx_8 W.cell, xx_0 W.cell, gu_c W.qs.2.2.2.2.2.2.1, e1, cI_some]
    · rw [q_M_look, mc, m_isC G, cI_some, e, if_neg z10, mc, e2]
theorem j_hangs (J : JR ro h x m) (c p : Int32) : JI ro (fn_X_hangs x c p h) (fun k => fn_M_hangs m c p k) x m := by
  obtain ⟨A, I, u, v, L, n, a, sg, rs, nn, un, W⟩ := J
  have G := W.gd
  have hs := W.sc.sq
  rcases inV_c c n G.1.1 with e | ⟨e, d, hd, rfl⟩
  · obtain ⟨h1, h2, e1, e2, e3, e4⟩ := j_bad W (-2)
    refine JI.mk (r := -2) ?_ e2 ?_ e4
    · rw [q_X_hangs, xx_c W.cell, x_isC W, cI_some, e, if_pos rfl, xx_c W.cell, e1, cI_some]
    · rw [q_M_hangs, mc, m_isC G, cI_some, e, if_pos rfl, mc, e3, cI_some]
  · rcases inV_d p 0 7 (by omega) (by omega) with e' | ⟨e', q, -, hq, rfl⟩
    · obtain ⟨h1, h2, e1, e2, e3, e4⟩ := j_bad W (-2)
      refine JI.mk (r := -2) ?_ e2 ?_ e4
      · rw [q_X_hangs, xx_c W.cell, x_isC W, cI_some, e, if_neg z10, x_isPitch, cI_some, e', if_pos rfl, xx_c W.cell, e1, cI_some]
      · rw [q_M_hangs, mc, m_isC G, cI_some, e, if_neg z10, m_isPitch, cI_some, e', if_pos rfl, mc, e3, cI_some]
    · obtain ⟨Wl, R, N, U, s1, s2, s3, s4, s5⟩ := W.sc
      have hn := G.1.1
      have hw := s1.2.1
      have hr := s1.2.2.1
      obtain ⟨A1, I1, e1, l1, k1⟩ := G.1.lay (h := h) (m := m) (u := u) (v := v) (I := I) rfl
      have eh := m_hanging (h := h) (m := m) (A := A1) (I := I1) (u := u) (v := v) (nI d) (fK (A 0) d) (c := d) (p := q) (by omega) (by omega) (by have := G.1.sg32; omega) (by have := G.1.rs32; omega) l1.2.2.1 l1.2.2.2.1
      rw [l1.1, (l1.2.2.2.2.2 d hd).2] at eh
      refine JI.mk (r := hangV (fK (A 0) d) (A 0 (38 + 4 * d + 1)) (fS (A 0) d) (bt1 sg d) (bt1 rs d) (nI d) (A 0 (6 + 4 * q + 1))) ?_ W.1 ?_ (W.here k1)
      · rw [q_X_hangs, xx_c W.cell, x_isC W, cI_some, e, if_neg z10, x_isPitch, cI_some, e', if_neg z10, xx_0 W.cell, sc_r s1, xx_0 W.cell, sc_w s1, wl_r1 hw, wl_l1 hw (by omega), rp_c hr, s_hang hr (by omega), cI_some]
        have t1 : R 1 d = fK (A 0) d := s3 1 (by decide) d hd
        have t2 : R 2 d = A 0 (38 + 4 * d + 1) := s3 2 (by decide) d hd
        have t3 : R 3 d = fS (A 0) d := s3 3 (by decide) d hd
        have t5 : R 5 d = bt1 sg d := s3 5 (by decide) d hd
        have t6 : R 6 d = bt1 rs d := s3 6 (by decide) d hd
        have t7 : Wl 1 q = A 0 (6 + 4 * q + 1) := s2 1 (by decide) q (by omega)
        show some (some (Value.int (hangV (R 1 d) (R 2 d) (R 3 d) (R 5 d) (R 6 d) (nI d) (Wl 1 q))), h) = _
        rw [t1, t2, t3, t5, t6, t7]
      · rw [q_M_hangs, mc, m_isC G, cI_some, e, if_neg z10, m_isPitch, cI_some, e', if_neg z10, mc, e1, cV_some, mc, m_get0 (by omega), cI_some, mc, l1.1]
        rw [show A 0 (38 + 4 * d + 0) = fK (A 0) d from rfl, eh, cI_some]
theorem j_status (J : JR ro h x m) (w : Int32) : JI ro (fn_X_status x w h) (fun k => fn_M_status m w k) x m := by
  obtain ⟨A, I, u, v, L, n, a, sg, rs, nn, un, W⟩ := J
  rcases inV_d w 0 2 (by omega) (by omega) with e | ⟨e, k, -, hk, rfl⟩
  · have w0 : ¬ w = 0 := fun z => by subst z; exact absurd e (by decide)
    have w1 : ¬ w = 0 + 1 := fun z => by subst z; exact absurd e (by decide)
    have w2 : ¬ w = 0 + 1 + 1 := fun z => by subst z; exact absurd e (by decide)
    obtain ⟨h1, h2, e1, e2, e3, e4⟩ := j_bad W (-1)
    refine JI.mk (r := -1) ?_ e2 ?_ e4
    · rw [q_X_status, if_neg w0, if_neg w1, if_neg w2, xx_c W.cell, e1, cI_some]
    · rw [q_M_status, m_wn w 0 2 (by decide) (by decide), cI_some, e, if_pos rfl, mc, e3, cI_some]
  · refine JI.mk (r := A 3 k) ?_ W.1 ?_ (W.here (KQ.refl A I))
    · match k, hk with
      | 0, _ => rw [q_X_status, if_pos (by decide), xx_11 W.cell]
      | 1, _ => rw [q_X_status, if_neg (by decide), if_pos (by decide), xx_12 W.cell]
      | 2, _ => rw [q_X_status, if_neg (by decide), if_neg (by decide), if_pos (by decide), xx_13 W.cell]
      | k + 3, hk => omega
    · rw [q_M_status, m_wn _ 0 2 (by decide) (by decide), cI_some, e, if_neg z10, mr_3, ml_3 (by omega)]
theorem j_of (J : JR ro h x m) (c w : Int32) : JI ro (fn_X_of x c w h) (fun k => fn_M_of m c w k) x m := by
  obtain ⟨A, I, u, v, L, n, a, sg, rs, nn, un, W⟩ := J
  have G := W.gd
  rcases inV_c c n G.1.1 with e | ⟨e, d, hd, rfl⟩
  · obtain ⟨h1, h2, e1, e2, e3, e4⟩ := j_bad W (-2)
    refine JI.mk (r := -2) ?_ e2 ?_ e4
    · rw [q_X_of, xx_c W.cell, x_isC W, cI_some, e, if_pos rfl, xx_c W.cell, e1, cI_some]
    · rw [q_M_of, mc, m_isC G, cI_some, e, if_pos rfl, mc, e3, cI_some]
  · rcases inV_d w 0 5 (by omega) (by omega) with e' | ⟨e', k, -, hk, rfl⟩
    · have w0 : ¬ w = 0 := fun z => by subst z; exact absurd e' (by decide)
      have w1 : ¬ w = 0 + 1 := fun z => by subst z; exact absurd e' (by decide)
      have w2 : ¬ w = 0 + 1 + 1 := fun z => by subst z; exact absurd e' (by decide)
      have w3 : ¬ w = 0 + 1 + 1 + 1 := fun z => by subst z; exact absurd e' (by decide)
      have w4 : ¬ w = 0 + 1 + 1 + 1 + 1 := fun z => by subst z; exact absurd e' (by decide)
      have w5 : ¬ w = 0 + 1 + 1 + 1 + 1 + 1 := fun z => by subst z; exact absurd e' (by decide)
      obtain ⟨h1, h2, e1, e2, e3, e4⟩ := j_bad W (-2)
      refine JI.mk (r := -2) ?_ e2 ?_ e4
      · rw [q_X_of, xx_c W.cell, x_isC W, cI_some, e, if_neg z10, if_neg w0, if_neg w1, if_neg w2, if_neg w3, if_neg w4, if_neg w5, xx_c W.cell, e1, cI_some]
      · rw [q_M_of, mc, m_isC G, cI_some, e, if_neg z10, m_wn w 0 5 (by decide) (by decide), cI_some, e', if_pos rfl, mc, e3, cI_some]
    · obtain ⟨Wl, R, N, U, s1, s2, s3, s4, s5⟩ := W.sc
      have hn := G.1.1
      have hr := s1.2.2.1
      have d5 : d < 5 := by omega
      have e2 : A 0 2 = nI sg := G.1.2.2.2.2.2.1
      have e3 : A 0 3 = nI rs := G.1.2.2.2.2.2.2.2
      have c1 := W.cell
      have key : fn_X_of x (nI d) (nI k) h = some (some (.int (RF (A 0) sg rs (k + 1) d)), h) := by
        match k, hk with
        | 0, _ =>
          rw [q_X_of, xx_c c1, x_isC W, cI_some, e, if_neg z10, if_pos (by decide), xx_0 c1, sc_r s1, rp_r1 hr, rp_l1 hr d5]
          exact congrArg (fun z => some (some (Value.int z), h)) (s3 1 (by decide) d hd)
        | 1, _ =>
          rw [q_X_of, xx_c c1, x_isC W, cI_some, e, if_neg z10, if_neg (by decide), if_pos (by decide), xx_0 c1, sc_r s1, rp_r2 hr, rp_l2 hr d5]
          exact congrArg (fun z => some (some (Value.int z), h)) (s3 2 (by decide) d hd)
        | 2, _ =>
          rw [q_X_of, xx_c c1, x_isC W, cI_some, e, if_neg z10, if_neg (by decide), if_neg (by decide), if_pos (by decide), xx_0 c1, sc_r s1, rp_r3 hr, rp_l3 hr d5]
          exact congrArg (fun z => some (some (Value.int z), h)) (s3 3 (by decide) d hd)
        | 3, _ =>
          rw [q_X_of, xx_c c1, x_isC W, cI_some, e, if_neg z10, if_neg (by decide), if_neg (by decide), if_neg (by decide), if_pos (by decide), xx_0 c1, sc_r s1, rp_r4 hr, rp_l4 hr d5]
          exact congrArg (fun z => some (some (Value.int z), h)) (s3 4 (by decide) d hd)
        | 4, _ =>
          rw [q_X_of, xx_c c1, x_isC W, cI_some, e, if_neg z10, if_neg (by decide), if_neg (by decide), if_neg (by decide), if_neg (by decide), if_pos (by decide), xx_0 c1, sc_r s1, rp_r5 hr, rp_l5 hr d5]
          exact congrArg (fun z => some (some (Value.int z), h)) (s3 5 (by decide) d hd)
        | 5, _ =>
          rw [q_X_of, xx_c c1, x_isC W, cI_some, e, if_neg z10, if_neg (by decide), if_neg (by decide), if_neg (by decide), if_neg (by decide), if_neg (by decide), if_pos (by decide), xx_0 c1, sc_r s1, rp_r6 hr, rp_l6 hr d5]
          exact congrArg (fun z => some (some (Value.int z), h)) (s3 6 (by decide) d hd)
        | k + 6, hk => omega
      refine JI.mk key W.1 ?_ (W.here (KQ.refl A I))
      rw [q_M_of, mc, m_isC G, cI_some, e, if_neg z10, m_wn _ 0 5 (by decide) (by decide), cI_some, e', if_neg z10]
      match k, hk with
      | 0, _ =>
        rw [if_neg (by decide), mc, m_get d5 (j := 0) (by decide) rfl, cI_some]
        rfl
      | 1, _ =>
        rw [if_neg (by decide), mc, m_get d5 (j := 1) (by decide) rfl, cI_some]
        rfl
      | 2, _ =>
        rw [if_neg (by decide), mc, m_get d5 (j := 2) (by decide) rfl, cI_some]
        rfl
      | 3, _ =>
        rw [if_neg (by decide), mc, m_get d5 (j := 3) (by decide) rfl, cI_some]
        rfl
      | 4, _ =>
        rw [if_pos (by decide), mr_0, if_pos (by decide), ml_0_2, e2, bt_shr sg (by have := G.1.sg32; omega) d (by omega)]
        rfl
      | 5, _ =>
        rw [if_pos (by decide), mr_0, if_neg (by decide), ml_0_3, e3, bt_shr rs (by have := G.1.rs32; omega) d (by omega)]
        rfl
      | k + 6, hk => omega
end
end
