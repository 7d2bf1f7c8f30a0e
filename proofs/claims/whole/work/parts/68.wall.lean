/-! both sides: what changes the scene: wall, pitch, ice -/
section
variable {ro : Nat → Option ab_Ce}
section
variable {f g : Nat → Int32} {n a sg rs nn un : Nat}
theorem we_cong {W : Nat → Nat → Int32} (h : WEq W (WF f)) (e : ∀ k, 6 ≤ k → k < 38 → g k = f k) : WEq W (WF g) := fun j hj p hp => by
  rw [h j hj p hp]
  exact (e _ (by omega) (by omega)).symm
theorem re_cong {R : Nat → Nat → Int32} (h : REq n R (RF f sg rs)) (hn : n ≤ 5) (e : ∀ k, 38 ≤ k → k < 58 → g k = f k) : REq n R (RF g sg rs) := fun j hj i hi => by
  rw [h j hj i hi]
  have e0 := e (38 + 4 * i + 0) (by omega) (by omega)
  have e1 := e (38 + 4 * i + 1) (by omega) (by omega)
  have e2 := e (38 + 4 * i + 2) (by omega) (by omega)
  have e3 := e (38 + 4 * i + 3) (by omega) (by omega)
  match j, hj with
  | 0, _ => rfl
  | 1, _ => exact e0.symm
  | 2, _ => exact e1.symm
  | 3, _ => exact e2.symm
  | 4, _ => exact e3.symm
  | 5, _ => rfl
  | 6, _ => rfl
  | k + 7, hj => omega
theorem nf_cong {N : Nat → Nat → Int32} (h6 : nn ≤ 6) (h : ∀ j, j < 2 → ∀ i, i < nn → N j i = NF f j i) (e : ∀ k, 58 ≤ k → k < 70 → g k = f k) : ∀ j, j < 2 → ∀ i, i < nn → N j i = NF g j i := fun j hj i hi => by
  rw [h j hj i hi]
  exact (e _ (by omega) (by omega)).symm
theorem uf_cong {U : Nat → Nat → Int32} (h8 : un ≤ 8) (h : ∀ j, j < 3 → ∀ i, i < un → U j i = f (70 + 3 * i + j)) (e : ∀ k, 70 ≤ k → k < 94 → g k = f k) : ∀ j, j < 3 → ∀ i, i < un → U j i = g (70 + 3 * i + j) := fun j hj i hi => by
  rw [h j hj i hi]
  exact (e _ (by omega) (by omega)).symm
/-- what is told still holds where only some cells have changed -/
theorem Fo.cong (F : Fo f n a sg rs) (e : ∀ k, k < 4 → g k = f k) : Fo g n a sg rs := by
  obtain ⟨h0, h1, h2, h3, h4, h5, h6, h7⟩ := F
  exact ⟨h0, (e 0 (by decide)).trans h1, h2, (e 1 (by decide)).trans h3, h4, (e 2 (by decide)).trans h5, h6, (e 3 (by decide)).trans h7⟩
theorem No.cong (F : No f nn) (e4 : g 4 = f 4) (e : ∀ k, 58 ≤ k → k < 70 → g k = f k) : No g nn := by
  obtain ⟨h0, h1, h2⟩ := F
  refine ⟨h0, e4.trans h1, fun i hi => ?_⟩
  obtain ⟨p, hp, ep⟩ := h2 i hi
  exact ⟨p, hp, (e _ (by omega) (by omega)).trans ep⟩
theorem wo_cong (F : WallOk (WF f)) (e : ∀ k, 6 ≤ k → k < 38 → g k = f k) : WallOk (WF g) := by
  intro p hp
  obtain ⟨⟨l, l1, l2⟩, ⟨r, r1, r2⟩⟩ := F p hp
  exact ⟨⟨l, (e _ (by omega) (by omega)).trans l1, l2⟩, ⟨r, (e _ (by omega) (by omega)).trans r1, r2⟩⟩
theorem un_cong (h8 : un ≤ 8) (F : ∀ i, i < un → ∃ b s r, b ≤ 8 ∧ s < 2 ^ n ∧ r < 2 ^ n ∧ f (70 + 3 * i) = nI b ∧ f (70 + 3 * i + 1) = nI s ∧ f (70 + 3 * i + 2) = nI r) (e : ∀ k, 70 ≤ k → k < 94 → g k = f k) : ∀ i, i < un → ∃ b s r, b ≤ 8 ∧ s < 2 ^ n ∧ r < 2 ^ n ∧ g (70 + 3 * i) = nI b ∧ g (70 + 3 * i + 1) = nI s ∧ g (70 + 3 * i + 2) = nI r := by
  intro i hi
  obtain ⟨b, s, r, h1, h2, h3, h4, h5, h6⟩ := F i hi
  exact ⟨b, s, r, h1, h2, h3, (e _ (by omega) (by omega)).trans h4, (e _ (by omega) (by omega)).trans h5, (e _ (by omega) (by omega)).trans h6⟩
end
theorem JW.now {h h1 : ab_H} {x m : Nat} {A B : Nat → Nat → Int32} {I J : Nat → Int32} {u v : Int64} {L n a sg rs nn un n' a' sg' rs' nn' un' : Nat} {g : Nat → Int32} (W : JW ro h x m A I u v L n a sg rs nn un) (fr : Frm h h1 (x + 1) 21) (S : ScIs h1 (x + 1) g n' a' sg' rs' nn' un') (G : Gd g n' a' sg' rs' nn' un') (k : KQ (ropU A 0 g) I B J) : JR ro (mH h1 m B J u v) x m := by
  obtain ⟨w1, w2, w3, w4, w5, ⟨x1, x2, x3, x4, x5⟩, w7, w8⟩ := W
  have X : XB h1 x (ropU A 0 g) L u v n' a' sg' rs' nn' un' := ⟨by rw [fr.2 _ (by omega)]; exact x1, S, x3.frm fr (by omega), x4.frm fr (by omega), x5.frm fr (by omega)⟩
  refine JW.end w2 (w3.frm fr (by omega)) (k.2.2.2.2.2.trans w4) w5 (X.kq k) (w7.frm fr (by omega)) ?_
  rw [k.1]
  exact G
/-! the reference: all as at first -/
def Beg (g : Nat → Int32) : Prop := (∀ k, k < 6 → g k = 0) ∧ (∀ p, p < 8 → g (6 + 4 * p) = 0 ∧ g (6 + 4 * p + 1) = 0 ∧ g (6 + 4 * p + 2) = nI (p + 1) ∧ g (6 + 4 * p + 3) = nI (p + 1))
theorem m_beg2 {h : ab_H} {r len : Nat} (hl : 70 ≤ len) (hl2 : len ≤ 200) : ∀ (d i : Nat) (g : Nat → Int32), i + d = 70 → (∀ k, k < i → g k = 0) → ∃ g', pt_M_begin_2 r (nI i) (ab_set h r (.inl (0, len, g))) = pt_M_begin_20 r 0 (ab_set h r (.inl (0, len, g'))) ∧ (∀ k, k < 70 → g' k = 0) := by
  intro d
  induction d with
  | zero =>
    intro i g hi hg
    rw [q_M_begin_2, if_pos (show (70 : Int32) ≤ nI i from nI_le (a := 70) (by omega) (by omega))]
    exact ⟨g, rfl, fun k hk => hg k (by omega)⟩
  | succ d ih =>
    intro i g hi hg
    rw [q_M_begin_2, if_neg (show ¬ (70 : Int32) ≤ nI i from nI_ge (b := 70) (by omega) (by decide)), iast_at (get_same _ _ _) (by omega) (by omega), set_set, nI_1]
    refine ih (i + 1) (upd g i 0) (by omega) (fun k hk => ?_)
    unfold upd
    split
    · rfl
    · exact hg k (by omega)
theorem m_beg20 {h : ab_H} {r len : Nat} (hl : 70 ≤ len) (hl2 : len ≤ 200) : ∀ (d p : Nat) (g : Nat → Int32), p + d = 8 → ∃ g', pt_M_begin_20 r (nI p) (ab_set h r (.inl (0, len, g))) = some (none, ab_set h r (.inl (0, len, g'))) ∧ (∀ q, p ≤ q → q < 8 → g' (6 + 4 * q + 2) = nI (q + 1) ∧ g' (6 + 4 * q + 3) = nI (q + 1)) ∧ (∀ k, (k < 6 + 4 * p ∨ 38 ≤ k ∨ (k - 6) % 4 < 2) → g' k = g k) := by
  intro d
  induction d with
  | zero =>
    intro p g hp
    rw [q_M_begin_20, if_pos (show (8 : Int32) ≤ nI p from nI_le (a := 8) (by omega) (by omega))]
    exact ⟨g, rfl, fun q h1 h2 => by omega, fun _ _ => rfl⟩
  | succ d ih =>
    intro p g hp
    rw [q_M_begin_20, if_neg (show ¬ (8 : Int32) ≤ nI p from nI_ge (b := 8) (by omega) (by decide)), ix_6, nI_a2, nI_a3, nI_1, iast_at (get_same _ _ _) (by omega) (by omega), set_set, iast_at (get_same _ _ _) (by omega) (by omega), set_set]
    obtain ⟨g', e1, r1, r2⟩ := ih (p + 1) (upd (upd g (6 + 4 * p + 2) (nI (p + 1))) (6 + 4 * p + 3) (nI (p + 1))) (by omega)
    refine ⟨g', e1, fun q h1 h2 => ?_, fun k hk => ?_⟩
    · by_cases e : q = p
      · subst e
        constructor
        · rw [r2 _ (by omega), up_ne _ _ (by omega), up_at]
        · rw [r2 _ (by omega), up_at]
      · exact r1 q (by omega) h2
    · rw [r2 k (by omega), up_ne _ _ (by omega), up_ne _ _ (by omega)]
theorem m_begin {h : ab_H} {r len : Nat} {g : Nat → Int32} (hg : ab_get h r = some (.inl (0, len, g))) (hl : 70 ≤ len) (hl2 : len ≤ 200) : ∃ g', fn_M_begin r h = some (none, ab_set h r (.inl (0, len, g'))) ∧ Beg g' := by
  obtain ⟨g1, e1, r1⟩ := m_beg2 (h := h) (r := r) hl hl2 70 0 g (by omega) (fun k hk => absurd hk (Nat.not_lt_zero k))
  obtain ⟨g2, e2, r2, r3⟩ := m_beg20 (h := h) (r := r) hl hl2 8 0 g1 (by omega)
  rw [nI_0] at e1 e2
  rw [set_self hg] at e1
  refine ⟨g2, ?_, fun k hk => ?_, fun p hp => ⟨?_, ?_, (r2 p (by omega) hp).1, (r2 p (by omega) hp).2⟩⟩
  · rw [q_M_begin, e1, e2]
  · rw [r3 k (by omega), r1 k (by omega)]
  · rw [r3 _ (by omega), r1 _ (by omega)]
  · rw [r3 _ (by omega), r1 _ (by omega)]
theorem Beg.gd {g : Nat → Int32} (b : Beg g) : Gd g 0 0 0 0 0 0 := by
  obtain ⟨b1, b2⟩ := b
  have z : ∀ k, k < 6 → g k = nI 0 := fun k hk => (b1 k hk).trans nI_0.symm
  refine ⟨⟨by omega, z 0 (by decide), by omega, z 1 (by decide), by decide, z 2 (by decide), by decide, z 3 (by decide)⟩, ⟨by omega, z 4 (by decide), fun i hi => absurd hi (Nat.not_lt_zero i)⟩, fun p hp => ?_, by omega, z 5 (by decide), fun i hi => absurd hi (Nat.not_lt_zero i)⟩
  obtain ⟨-, -, h2, h3⟩ := b2 p hp
  exact ⟨⟨p + 1, h2, by omega, by omega⟩, ⟨p + 1, h3, by omega, by omega⟩⟩
theorem Beg.weq {g : Nat → Int32} (b : Beg g) (W : Nat → Nat → Int32) : WEq (wall0 8 W) (WF g) := fun j hj p hp => by
  obtain ⟨h0, h1, h2, h3⟩ := b.2 p hp
  unfold wall0
  rw [if_pos hp]
  match j, hj with
  | 0, _ => exact h0.symm
  | 1, _ => exact h1.symm
  | 2, _ => exact h2.symm
  | 3, _ => exact h3.symm
  | k + 4, hj => omega
section
variable {h : ab_H} {x m : Nat}
theorem j_wall (J : JR ro h x m) : JI ro (fn_X_wall x h) (fun k => fn_M_wall m k) x m := by
  obtain ⟨A, I, u, v, L, n, a, sg, rs, nn, un, W⟩ := J
  have G := W.gd
  have hs := W.sc.sq
  have en : A 0 0 = nI n := G.1.2.1
  obtain ⟨Wl, R, N, U, s1, s2, s3, s4, s5⟩ := W.sc
  obtain ⟨h1, e1, t1, f1⟩ := s_sreset s1
  obtain ⟨g, e2, b2⟩ := m_begin (h := mH h1 m A I u v) (r := m + 1) mg_1 (by omega) (by omega)
  rw [ma_s0] at e2
  refine JI.mk (r := nI n) ?_ (W.mid f1 (by omega)) ?_ (W.now f1 ⟨_, _, _, _, t1, b2.weq _, fun j hj i hi => absurd hi (Nat.not_lt_zero i), fun j hj i hi => absurd hi (Nat.not_lt_zero i), fun j hj i hi => absurd hi (Nat.not_lt_zero i)⟩ b2.gd (KQ.refl _ I))
  · rw [q_X_wall, xx_0 W.cell, sq_r hs, ri_n hs.2.2, xx_0 W.cell, sc_c s1, e1, cV_some]
  · rw [q_M_wall, mc, m_many, cI_some, mr_0, e2, cV_some, en]
theorem j_pitch (J : JR ro h x m) (p o l r : Int32) : JI ro (fn_X_pitch x p o l r h) (fun k => fn_M_pitch m p o l r k) x m := by
  obtain ⟨A, I, u, v, L, n, a, sg, rs, nn, un, W⟩ := J
  have G := W.gd
  have c1 := W.cell
  have wbad : ∀ (e : ∀ h : ab_H, fn_M_isWay p o l r h = some (some (.int 0), h)) (h1 h2 : ab_H), fn_M_bad m (-2) (mH h1 m A I u v) = some (some (.int (-2)), h2) → fn_M_pitch m p o l r (mH h1 m A I u v) = some (some (.int (-2)), h2) := fun e h1 h2 e3 => by
    rw [q_M_pitch, e, cI_some, if_pos rfl, mc, e3, cI_some]
  rcases inV_d p 0 7 (by omega) (by omega) with e | ⟨e, q, -, hq, rfl⟩
  · obtain ⟨h1, h2, e1, e2, e3, e4⟩ := j_bad W (-2)
    refine JI.mk (r := -2) ?_ e2 (wbad (fun h => ?_) h1 _ e3) e4
    · rw [q_X_pitch, x_isPitch, cI_some, e, if_pos rfl, xx_c c1, e1, cI_some]
    · rw [q_M_isWay, m_isPitch, cI_some, e, if_pos rfl, chk_b0]
  · rcases inV_d o 0 9 (by omega) (by omega) with e' | ⟨e', y, -, hy, rfl⟩
    · obtain ⟨h1, h2, e1, e2, e3, e4⟩ := j_bad W (-2)
      refine JI.mk (r := -2) ?_ e2 (wbad (fun h => ?_) h1 _ e3) e4
      · rw [q_X_pitch, x_isPitch, cI_some, e, if_neg z10, x_wn o 0 9 (by decide) (by decide), cI_some, e', if_pos rfl, xx_c c1, e1, cI_some]
      · rw [q_M_isWay, m_isPitch, cI_some, e, if_neg z10, m_wn o 0 9 (by decide) (by decide), cI_some, e', if_pos rfl, chk_b0]
    · have el : Int32.toInt64 (nI q) + 1 = Int32.toInt64 (nI (q + 1)) := by rw [nI_l (by omega), nI_l (by omega), lN_1]
      have mw : ∀ (z : Int32) (h : ab_H), fn_M_in z.toInt64 (Int32.toInt64 (nI q) + 1) (8 : Int64) h = some (some (.int (inV z (nI (q + 1)) (nI 8))), h) := fun z h => m_wn z (q + 1) 8 el (by decide) h
      have xw : ∀ (z : Int32) (h : ab_H), fn_X_within z (nI q + 1) (8 : Int32) h = some (some (.int (inV z (nI (q + 1)) (nI 8))), h) := fun z h => x_wn z (q + 1) 8 (nI_1 q) (by decide) h
      rcases inV_d l (q + 1) 8 (by omega) (by omega) with e2 | ⟨e2, b, hb1, hb2, rfl⟩
      · obtain ⟨h1, h2, g1, g2, g3, g4⟩ := j_bad W (-2)
        refine JI.mk (r := -2) ?_ g2 (wbad (fun h => ?_) h1 _ g3) g4
        · rw [q_X_pitch, x_isPitch, cI_some, e, if_neg z10, x_wn _ 0 9 (by decide) (by decide), cI_some, e', if_neg z10, xw, cI_some, e2, if_pos rfl, xx_c c1, g1, cI_some]
        · rw [q_M_isWay, m_isPitch, cI_some, e, if_neg z10, m_wn _ 0 9 (by decide) (by decide), cI_some, e', if_neg z10, mw, cI_some, e2, if_pos rfl, chk_b0]
      · rcases inV_d r (q + 1) 8 (by omega) (by omega) with e3 | ⟨e3, d, hd1, hd2, rfl⟩
        · obtain ⟨h1, h2, g1, g2, g3, g4⟩ := j_bad W (-2)
          refine JI.mk (r := -2) ?_ g2 (wbad (fun h => ?_) h1 _ g3) g4
          · rw [q_X_pitch, x_isPitch, cI_some, e, if_neg z10, x_wn _ 0 9 (by decide) (by decide), cI_some, e', if_neg z10, xw, cI_some, e2, if_neg z10, xw, cI_some, e3, if_pos rfl, xx_c c1, g1, cI_some]
          · rw [q_M_isWay, m_isPitch, cI_some, e, if_neg z10, m_wn _ 0 9 (by decide) (by decide), cI_some, e', if_neg z10, mw, cI_some, e2, if_neg z10, mw, cI_some, e3, if_pos rfl, chk_b0]
        · obtain ⟨Wl, R, N, U, s1, s2, s3, s4, s5⟩ := W.sc
          have q8 : q < 8 := by omega
          obtain ⟨h1, e4, t1, f1⟩ := s_tell s1.2.1 q8 (nI y) (nI b) (nI d)
          have s1' := sc_uW s1 f1 t1
          have g0 : ∀ k, ¬ (6 + 4 * q + 1 ≤ k ∧ k ≤ 6 + 4 * q + 3) → upd (upd (upd (A 0) (6 + 4 * q + 1) (nI y)) (6 + 4 * q + 2) (nI b)) (6 + 4 * q + 3) (nI d) k = A 0 k := fun k hk => by
            rw [up_ne _ _ (by omega), up_ne _ _ (by omega), up_ne _ _ (by omega)]
          have g1 : upd (upd (upd (A 0) (6 + 4 * q + 1) (nI y)) (6 + 4 * q + 2) (nI b)) (6 + 4 * q + 3) (nI d) (6 + 4 * q + 1) = nI y := by
            rw [up_ne _ _ (by omega), up_ne _ _ (by omega), up_at]
          have g2 : upd (upd (upd (A 0) (6 + 4 * q + 1) (nI y)) (6 + 4 * q + 2) (nI b)) (6 + 4 * q + 3) (nI d) (6 + 4 * q + 2) = nI b := by
            rw [up_ne _ _ (by omega), up_at]
          have g3 : upd (upd (upd (A 0) (6 + 4 * q + 1) (nI y)) (6 + 4 * q + 2) (nI b)) (6 + 4 * q + 3) (nI d) (6 + 4 * q + 3) = nI d := up_at _ _ _
          have hM : ∀ h1 : ab_H, fn_M_layPitch (m + 1) (nI q) (nI y) (nI b) (nI d) (mH h1 m A I u v) = some (none, mH h1 m (ropU A 0 (upd (upd (upd (A 0) (6 + 4 * q + 1) (nI y)) (6 + 4 * q + 2) (nI b)) (6 + 4 * q + 3) (nI d))) I u v) := fun h1 => by
            rw [q_M_layPitch, ix_6, nI_1, nI_a2, nI_a3, ma_0 (by omega), ma_0 (by omega), ma_0 (by omega), ropU_ropU, ropU_ropU, ropU_at, ropU_at]
          generalize hg : upd (upd (upd (A 0) (6 + 4 * q + 1) (nI y)) (6 + 4 * q + 2) (nI b)) (6 + 4 * q + 3) (nI d) = g at g0 g1 g2 g3 hM
          have hWall : WallOk (WF g) := by
            intro i hi
            by_cases hiq : i = q
            · subst hiq
              exact ⟨⟨b, g2, by omega, hb2⟩, ⟨d, g3, by omega, hd2⟩⟩
            · obtain ⟨⟨l, l1, l2⟩, ⟨r, r1, r2⟩⟩ := G.2.2.1 i hi
              exact ⟨⟨l, (g0 _ (by omega)).trans l1, l2⟩, ⟨r, (g0 _ (by omega)).trans r1, r2⟩⟩
          have G' : Gd g n a sg rs nn un := ⟨G.1.cong (fun k hk => g0 k (by omega)), G.2.1.cong (g0 4 (by omega)) (fun k h1 h2 => g0 k (by omega)), hWall, G.2.2.2.1, (g0 5 (by omega)).trans G.2.2.2.2.1, un_cong G.2.2.2.1 G.2.2.2.2.2 (fun k h1 h2 => g0 k (by omega))⟩
          refine JI.mk (r := A 0 (6 + 4 * q + 1)) ?_ (W.mid f1 (by omega)) ?_ (W.now (f1.wide (by omega) (by omega)) ⟨_, _, _, _, s1', ?_, re_cong s3 G.1.1 (fun k h1 h2 => g0 k (by omega)), nf_cong G.2.1.1 s4 (fun k h1 h2 => g0 k (by omega)), uf_cong G.2.2.2.1 s5 (fun k h1 h2 => g0 k (by omega))⟩ G' (KQ.refl _ I))
          · have hw := s1.2.1
            rw [q_X_pitch, x_isPitch, cI_some, e, if_neg z10, x_wn _ 0 9 (by decide) (by decide), cI_some, e', if_neg z10, xw, cI_some, e2, if_neg z10, xw, cI_some, e3, if_neg z10, xx_0 c1, sc_w s1, wl_r1 hw, wl_l1 hw q8, xx_0 c1, sc_w s1, wl_c hw, e4, cV_some]
            exact congrArg (fun z => some (some (Value.int z), h1)) (s2 1 (by decide) q q8)
          · rw [q_M_pitch, q_M_isWay, m_isPitch, cI_some, e, if_neg z10, m_wn _ 0 9 (by decide) (by decide), cI_some, e', if_neg z10, mw, cI_some, e2, if_neg z10, mw, cI_some, e3, if_neg z10, chk_b1, cI_some, if_neg z10, mc, m_op1 q8, cI_some, mr_0, hM, cV_some]
          · intro j hj i hi
            have sw := s2 j hj i hi
            show telW Wl q (nI y) (nI b) (nI d) j i = g (6 + 4 * i + j)
            by_cases hiq : i = q
            · subst hiq
              match j, hj with
              | 0, _ => exact sw.trans (g0 _ (by omega)).symm
              | 1, _ => exact (up_at _ _ _).trans g1.symm
              | 2, _ => exact (up_at _ _ _).trans g2.symm
              | 3, _ => exact (up_at _ _ _).trans g3.symm
              | k + 4, hj => omega
            · rw [g0 _ (by omega)]
              match j, hj with
              | 0, _ => exact sw
              | 1, _ => exact (up_ne _ _ hiq).trans sw
              | 2, _ => exact (up_ne _ _ hiq).trans sw
              | 3, _ => exact (up_ne _ _ hiq).trans sw
              | k + 4, hj => omega
theorem j_ice (J : JR ro h x m) (p o : Int32) : JI ro (fn_X_ice x p o h) (fun k => fn_M_ice m p o k) x m := by
  obtain ⟨A, I, u, v, L, n, a, sg, rs, nn, un, W⟩ := J
  have G := W.gd
  have c1 := W.cell
  rcases inV_d p 0 7 (by omega) (by omega) with e | ⟨e, q, -, hq, rfl⟩
  · obtain ⟨h1, h2, e1, e2, e3, e4⟩ := j_bad W (-2)
    refine JI.mk (r := -2) ?_ e2 ?_ e4
    · rw [q_X_ice, x_isPitch, cI_some, e, if_pos rfl, xx_c c1, e1, cI_some]
    · rw [q_M_ice, m_isPitch, cI_some, e, if_pos rfl, mc, e3, cI_some]
  · rcases inV_d o 0 1 (by omega) (by omega) with e' | ⟨e', y, -, hy, rfl⟩
    · obtain ⟨h1, h2, e1, e2, e3, e4⟩ := j_bad W (-2)
      refine JI.mk (r := -2) ?_ e2 ?_ e4
      · rw [q_X_ice, x_isPitch, cI_some, e, if_neg z10, x_isFlag, cI_some, e', if_pos rfl, xx_c c1, e1, cI_some]
      · rw [q_M_ice, m_isPitch, cI_some, e, if_neg z10, m_wn o 0 1 (by decide) (by decide), cI_some, e', if_pos rfl, mc, e3, cI_some]
    · obtain ⟨Wl, R, N, U, s1, s2, s3, s4, s5⟩ := W.sc
      have q8 : q < 8 := by omega
      have hw := s1.2.1
      have hw1 := wl_s0 hw (upd (Wl 0) q (nI y))
      have f1 := Frm.set h (x + 1 + 1 + 1) (.inl (0, 8, upd (Wl 0) q (nI y)))
      have s1' := sc_uW s1 (f1.wide (by omega) (by omega)) hw1
      have g0 : ∀ k, k ≠ 6 + 4 * q + 0 → upd (A 0) (6 + 4 * q + 0) (nI y) k = A 0 k := fun k hk => up_ne _ _ hk
      have G' : Gd (upd (A 0) (6 + 4 * q + 0) (nI y)) n a sg rs nn un := by
        refine ⟨G.1.cong (fun k hk => g0 k (by omega)), G.2.1.cong (g0 4 (by omega)) (fun k h1 h2 => g0 k (by omega)), ?_, G.2.2.2.1, (g0 5 (by omega)).trans G.2.2.2.2.1, un_cong G.2.2.2.1 G.2.2.2.2.2 (fun k h1 h2 => g0 k (by omega))⟩
        intro i hi
        obtain ⟨⟨l, l1, l2⟩, ⟨r, r1, r2⟩⟩ := G.2.2.1 i hi
        exact ⟨⟨l, (g0 _ (by omega)).trans l1, l2⟩, ⟨r, (g0 _ (by omega)).trans r1, r2⟩⟩
      refine JI.mk (r := A 0 (6 + 4 * q + 0)) ?_ (W.mid f1 (by omega)) ?_ (W.now (f1.wide (by omega) (by omega)) ⟨_, _, _, _, s1', ?_, re_cong s3 G.1.1 (fun k h1 h2 => g0 k (by omega)), nf_cong G.2.1.1 s4 (fun k h1 h2 => g0 k (by omega)), uf_cong G.2.2.2.1 s5 (fun k h1 h2 => g0 k (by omega))⟩ G' (KQ.refl _ I))
      · rw [q_X_ice, x_isPitch, cI_some, e, if_neg z10, x_isFlag, cI_some, e', if_neg z10, xx_0 c1, sc_w s1, wl_r0 hw, wl_l0 hw q8, xx_0 c1, sc_w s1, wl_r0 hw, iast_at hw.2.1 q8 (by decide)]
        exact congrArg (fun z => some (some (Value.int z), _)) (s2 0 (by decide) q q8)
      · rw [q_M_ice, m_isPitch, cI_some, e, if_neg z10, m_wn _ 0 1 (by decide) (by decide), cI_some, e', if_neg z10, mc, m_op0 q8, cI_some, mr_0, ix_6, nI_a0, ma_0 (by omega)]
      · intro j hj i hi
        have sw := s2 j hj i hi
        show ropU Wl 0 (upd (Wl 0) q (nI y)) j i = upd (A 0) (6 + 4 * q + 0) (nI y) (6 + 4 * i + j)
        by_cases hj0 : j = 0
        · subst hj0
          rw [ropU_at]
          by_cases hiq : i = q
          · subst hiq
            rw [up_at, up_at]
          · rw [up_ne _ _ hiq, up_ne _ _ (by omega)]
            exact sw
        · rw [ropU_ne _ _ hj0, up_ne _ _ (by omega)]
          exact sw
end
end
