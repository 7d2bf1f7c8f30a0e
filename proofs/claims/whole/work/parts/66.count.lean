/-! both sides: count, digest, part, slips -/
section
variable {ro : Nat → Option ab_Ce}
def JL (ro : Nat → Option ab_Ce) (X : Option ab_R) (M : ab_H → Option ab_R) (x m : Nat) : Prop := ∃ r h1 h2, X = some (some (.long r), h1) ∧ M h1 = some (some (.long r), h2) ∧ JR ro h2 x m ∧ (∃ A I u v, h1 = mH h1 m A I u v) ∧ ab_get h1 0 = ro 0
theorem JL.mk {X : Option ab_R} {M : ab_H → Option ab_R} {x m : Nat} {r : Int64} {h1 : ab_H} {A B : Nat → Nat → Int32} {I K : Nat → Int32} {u v u' v' : Int64} (eX : X = some (some (.long r), h1)) (em : h1 = mH h1 m A I u v) (eM : M (mH h1 m A I u v) = some (some (.long r), mH h1 m B K u' v')) (J : JR ro (mH h1 m B K u' v') x m) : JL ro X M x m := ⟨r, h1, _, eX, (congrArg M em).trans eM, J, ⟨A, I, u, v, em⟩, J.ro0⟩
def ctV (L n a sg rs nn un k : Nat) : Int32 := if k = 0 then nI n else if k = 1 then nI a else if k = 2 then nI (pcN sg) else if k = 3 then nI (pcN rs) else if k = 4 then nI nn else if k = 5 then nI un else nI L
section
variable {h : ab_H} {x m : Nat} {A : Nat → Nat → Int32} {I : Nat → Int32} {u v : Int64} {L n a sg rs nn un : Nat}
theorem x_count (W : JW ro h x m A I u v L n a sg rs nn un) {k : Nat} (hk : k ≤ 6) : fn_X_count x (nI k) h = some (some (.int (ctV L n a sg rs nn un k)), h) := by
  have G := W.gd
  have hs := W.sc.sq
  have c1 := W.cell
  obtain ⟨Wl, R, N, U, s1, s2, s3, s4, s5⟩ := W.sc
  obtain ⟨tk, st, en, tx⟩ := W.2.2.2.2.2.1.2.2.2.2
  match k, hk with
  | 0, _ =>
    rw [q_X_count, if_pos (by decide), xx_0 c1, sq_r hs, ri_n hs.2.2]
    rfl
  | 1, _ =>
    rw [q_X_count, if_neg (by decide), if_pos (by decide), xx_0 c1, sq_a hs]
    rfl
  | 2, _ =>
    rw [q_X_count, if_neg (by decide), if_neg (by decide), if_pos (by decide), xx_0 c1, sq_r hs, ri_c hs.2.2, t_sagBits hs.2.2 G.1.1 G.1.2.2.2.2.1 (fun i hi => rfl), cI_some, t_bits G.1.sg32, cI_some]
    rfl
  | 3, _ =>
    rw [q_X_count, if_neg (by decide), if_neg (by decide), if_neg (by decide), if_pos (by decide), xx_0 c1, sq_r hs, ri_c hs.2.2, t_restBits hs.2.2 G.1.1 G.1.2.2.2.2.2.2.1 (fun i hi => rfl), cI_some, t_bits G.1.rs32, cI_some]
    rfl
  | 4, _ =>
    rw [q_X_count, if_neg (by decide), if_neg (by decide), if_neg (by decide), if_neg (by decide), if_pos (by decide), xx_0 c1, sc_t s1, nt_n s1.2.2.2.1]
    rfl
  | 5, _ =>
    rw [q_X_count, if_neg (by decide), if_neg (by decide), if_neg (by decide), if_neg (by decide), if_neg (by decide), if_pos (by decide), xx_0 c1, sc_u s1, un_n s1.2.2.2.2]
    rfl
  | 6, _ =>
    rw [q_X_count, if_neg (by decide), if_neg (by decide), if_neg (by decide), if_neg (by decide), if_neg (by decide), if_neg (by decide), if_pos (by decide), xx_4 c1, tx_n tx]
    rfl
  | k + 7, hk => omega
theorem m_counted (G : Gd (A 0) n a sg rs nn un) (hI : I 16 = nI L) {k : Nat} (hk : k ≤ 6) : fn_M_counted m (nI k) (mH h m A I u v) = some (some (.int (ctV L n a sg rs nn un k)), mH h m A I u v) := by
  have e0 : A 0 0 = nI n := G.1.2.1
  have e1 : A 0 1 = nI a := G.1.2.2.2.1
  have e2 : A 0 2 = nI sg := G.1.2.2.2.2.2.1
  have e3 : A 0 3 = nI rs := G.1.2.2.2.2.2.2.2
  have e4 : A 0 4 = nI nn := G.2.1.2.1
  have e5 : A 0 5 = nI un := G.2.2.2.2.1
  have hsg := G.1.sg32
  have hrs := G.1.rs32
  match k, hk with
  | 0, _ =>
    rw [q_M_counted, if_pos (by decide), mc, m_many, cI_some, e0]
    rfl
  | 1, _ =>
    rw [q_M_counted, if_neg (by decide), if_pos (by decide), mr_0, ml_0_1, e1]
    rfl
  | 2, _ =>
    rw [q_M_counted, if_neg (by decide), if_neg (by decide), if_pos (by decide), mr_0, ml_0_2, e2, m_bits (by omega), cI_some, bcN_pc sg hsg]
    rfl
  | 3, _ =>
    rw [q_M_counted, if_neg (by decide), if_neg (by decide), if_neg (by decide), if_pos (by decide), mr_0, ml_0_3, e3, m_bits (by omega), cI_some, bcN_pc rs hrs]
    rfl
  | 4, _ =>
    rw [q_M_counted, if_neg (by decide), if_neg (by decide), if_neg (by decide), if_neg (by decide), if_pos (by decide), mr_0, ml_0_4, e4]
    rfl
  | 5, _ =>
    rw [q_M_counted, if_neg (by decide), if_neg (by decide), if_neg (by decide), if_neg (by decide), if_neg (by decide), if_pos (by decide), mr_0, ml_0_5, e5]
    rfl
  | 6, _ =>
    rw [q_M_counted, if_neg (by decide), if_neg (by decide), if_neg (by decide), if_neg (by decide), if_neg (by decide), if_neg (by decide), mi_16, hI]
    rfl
  | k + 7, hk => omega
end
/-- sums of cells -/
def suL (f : Nat → Int32) (b : Nat) : Nat → Nat → Int64 → Int64
  | 0, _, s => s
  | d + 1, k, s => suL f b d (k + 1) (31 * s + Int32.toInt64 (f (b + k)))
def cuL (g : Nat → Int32) : Nat → Nat → Int64 → Int64
  | 0, _, s => s
  | d + 1, k, s => cuL g d (k + 1) (31 * s + Int32.toInt64 (g k))
def clL (f : Nat → Int32) (sg rs : Nat) : Nat → Nat → Int64 → Int64
  | 0, _, s => s
  | d + 1, c, s => clL f sg rs d (c + 1) (31 * (31 * suL f (38 + 4 * c) 4 0 s + Int32.toInt64 (bt1 sg c)) + Int32.toInt64 (bt1 rs c))
section
variable {h : ab_H} {x m : Nat} {A : Nat → Nat → Int32} {I : Nat → Int32} {u v : Int64} {L n a sg rs nn un : Nat}
theorem m_sums_loop (x1 : Int64) {b e : Nat} (hb : b + e ≤ 94) : ∀ (d k : Nat) (s : Int64), k + d = e → pt_M_sums_6 m x1 (nI b) (nI e) s (nI k) (mH h m A I u v) = some (some (.long (suL (A 0) b d k s)), mH h m A I u v) := by
  intro d
  induction d with
  | zero =>
    intro k s hk
    rw [q_M_sums_6, if_pos (nI_le (by omega) (by omega))]
    rfl
  | succ d ih =>
    intro k s hk
    rw [q_M_sums_6, if_neg (nI_ge (by omega) (by omega)), mr_0, nI_add, ml_0 (by omega), nI_1, ih (k + 1) _ (by omega)]
    rfl
theorem m_sums (s : Int64) (b e : Nat) (hb : b + e ≤ 94) {y z : Int32} (ey : y = nI b) (ez : z = nI e) : fn_M_sums m s y z (mH h m A I u v) = some (some (.long (suL (A 0) b e 0 s)), mH h m A I u v) := by
  subst ey
  subst ez
  have := m_sums_loop (h := h) (m := m) (A := A) (I := I) (u := u) (v := v) s hb e 0 s (by omega)
  rw [nI_0] at this
  rw [q_M_sums, this]
theorem x_pitches (W : JW ro h x m A I u v L n a sg rs nn un) (s0 : Int64) : ∀ (d p : Nat) (s : Int64), p + d = 8 → pt_X_foldPitches_14 x s0 s (x + 1 + 1) (nI p) h = some (some (.long (suL (A 0) 6 (4 * d) (4 * p) s)), h) := by
  obtain ⟨Wl, R, N, U, s1, s2, s3, s4, s5⟩ := W.sc
  have hw := s1.2.1
  intro d
  induction d with
  | zero =>
    intro p s hp
    rw [q_X_foldPitches_14, if_pos (show (8 : Int32) ≤ nI p from nI_le (a := 8) (by omega) (by omega))]
    rfl
  | succ d ih =>
    intro p s hp
    have p8 : p < 8 := by omega
    have t0 : Wl 0 p = A 0 (6 + (4 * p)) := s2 0 (by decide) p p8
    have t1 : Wl 1 p = A 0 (6 + (4 * p + 1)) := s2 1 (by decide) p p8
    have t2 : Wl 2 p = A 0 (6 + (4 * p + 1 + 1)) := s2 2 (by decide) p p8
    have t3 : Wl 3 p = A 0 (6 + (4 * p + 1 + 1 + 1)) := s2 3 (by decide) p p8
    rw [q_X_foldPitches_14, if_neg (show ¬ (8 : Int32) ≤ nI p from nI_ge (b := 8) (by omega) (by decide)), wl_r0 hw, wl_l0 hw p8, q_X_fold, cL_some, wl_r1 hw, wl_l1 hw p8, q_X_fold, cL_some, wl_r2 hw, wl_l2 hw p8, q_X_fold, cL_some, wl_r3 hw, wl_l3 hw p8, q_X_fold, cL_some, nI_1, ih (p + 1) _ (by omega)]
    show some (some (Value.long (suL (A 0) 6 (4 * d) (4 * (p + 1)) (31 * (31 * (31 * (31 * s + Int32.toInt64 (Wl 0 p)) + Int32.toInt64 (Wl 1 p)) + Int32.toInt64 (Wl 2 p)) + Int32.toInt64 (Wl 3 p)))), h) = some (some (Value.long (suL (A 0) 6 (4 * d + 4) (4 * p) s)), h)
    rw [t0, t1, t2, t3]
    rfl
theorem x_climbers (W : JW ro h x m A I u v L n a sg rs nn un) (s0 : Int64) : ∀ (d c : Nat) (s : Int64), c + d = n → pt_X_foldClimbers_14 x s0 s (x + 1 + 6) (nI c) h = some (some (.long (clL (A 0) sg rs d c s)), h) := by
  have hn := W.gd.1.1
  obtain ⟨Wl, R, N, U, s1, s2, s3, s4, s5⟩ := W.sc
  have hr : RopeAt h (x + 1 + 6) n R := s1.2.2.1
  intro d
  induction d with
  | zero =>
    intro c s hc
    rw [q_X_foldClimbers_14, rp_n hr, if_pos (nI_le (by omega) (by omega))]
    rfl
  | succ d ih =>
    intro c s hc
    have c5 : c < 5 := by omega
    have cn : c < n := by omega
    have t1 : R 1 c = A 0 (38 + 4 * c + 0) := s3 1 (by decide) c cn
    have t2 : R 2 c = A 0 (38 + 4 * c + 1) := s3 2 (by decide) c cn
    have t3 : R 3 c = A 0 (38 + 4 * c + 2) := s3 3 (by decide) c cn
    have t4 : R 4 c = A 0 (38 + 4 * c + 3) := s3 4 (by decide) c cn
    have t5 : R 5 c = bt1 sg c := s3 5 (by decide) c cn
    have t6 : R 6 c = bt1 rs c := s3 6 (by decide) c cn
    rw [q_X_foldClimbers_14, rp_n hr, if_neg (nI_ge (b := n) (by omega) (by omega)), rp_r1 hr, rp_l1 hr c5, q_X_fold, cL_some, rp_r2 hr, rp_l2 hr c5, q_X_fold, cL_some, rp_r3 hr, rp_l3 hr c5, q_X_fold, cL_some, rp_r4 hr, rp_l4 hr c5, q_X_fold, cL_some, rp_r5 hr, rp_l5 hr c5, q_X_fold, cL_some, rp_r6 hr, rp_l6 hr c5, q_X_fold, cL_some, nI_1, ih (c + 1) _ (by omega)]
    show some (some (Value.long (clL (A 0) sg rs d (c + 1) (31 * (31 * (31 * (31 * (31 * (31 * s + Int32.toInt64 (R 1 c)) + Int32.toInt64 (R 2 c)) + Int32.toInt64 (R 3 c)) + Int32.toInt64 (R 4 c)) + Int32.toInt64 (R 5 c)) + Int32.toInt64 (R 6 c)))), h) = _
    rw [t1, t2, t3, t4, t5, t6]
    rfl
theorem x_notes (W : JW ro h x m A I u v L n a sg rs nn un) (s0 : Int64) : ∀ (d i : Nat) (s : Int64), i + d = nn → pt_X_foldNotes_5 x s0 s (nI i) h = some (some (.long (suL (A 0) 58 (2 * d) (2 * i) s)), h) := by
  have h6 := W.gd.2.1.1
  have c1 := W.cell
  obtain ⟨Wl, R, N, U, s1, s2, s3, s4, s5⟩ := W.sc
  have hN : NotesAt h (x + 1 + 14) nn N := s1.2.2.2.1
  intro d
  induction d with
  | zero =>
    intro i s hi
    rw [q_X_foldNotes_5, xx_0 c1, sc_t s1, nt_n hN, if_pos (nI_le (by omega) (by omega))]
    rfl
  | succ d ih =>
    intro i s hi
    have t0 : N 0 i = A 0 (58 + (2 * i)) := s4 0 (by decide) i (by omega)
    have t1 : N 1 i = A 0 (58 + (2 * i + 1)) := s4 1 (by decide) i (by omega)
    rw [q_X_foldNotes_5, xx_0 c1, sc_t s1, nt_n hN, if_neg (nI_ge (by omega) (by omega)), xx_0 c1, sc_t s1, nt_r0 hN, nt_l0 hN (by omega), q_X_fold, cL_some, xx_0 c1, sc_t s1, nt_r1 hN, nt_l1 hN (by omega), q_X_fold, cL_some, nI_1, ih (i + 1) _ (by omega), t0, t1]
    rfl
theorem x_dig_loop (W : JW ro h x m A I u v L n a sg rs nn un) : ∀ (d k : Nat) (s : Int64), k + d = 7 → pt_X_digest_6 x s (nI k) h = some (some (.long (31 * (31 * suL (A 0) 58 (2 * nn) 0 (clL (A 0) sg rs n 0 (suL (A 0) 6 32 0 (cuL (ctV L n a sg rs nn un) d k s))) + u) + v)), h) := by
  have c1 := W.cell
  intro d
  induction d with
  | zero =>
    intro k s hk
    have e1 := x_pitches W s 8 0 s (by omega)
    have e2 := fun s => x_climbers W s n 0 s (by omega)
    have e3 := fun s => x_notes W s nn 0 s (by omega)
    simp only [nI_0, Nat.mul_zero] at e1 e2 e3
    obtain ⟨Wl, R, N, U, s1, s2, s3, s4, s5⟩ := W.sc
    rw [q_X_digest_6, if_pos (show (6 : Int32) < nI k from nI_lt (a := 6) (by omega) (by omega)), xx_c c1, q_X_foldPitches, xx_0 c1, sc_w s1, e1, cL_some, xx_c c1, q_X_foldClimbers, xx_0 c1, sc_r s1, e2, cL_some, xx_c c1, q_X_foldNotes, e3, cL_some, xx_9 c1, q_X_fold, cL_some, xx_10 c1, q_X_fold, cL_some]
    rfl
  | succ d ih =>
    intro k s hk
    rw [q_X_digest_6, if_neg (show ¬ (6 : Int32) < nI k from nI_nlt (a := 6) (b := k) (by omega) (by decide)), xx_c c1, x_count W (by omega), cI_some, q_X_fold, cL_some, nI_1, ih (k + 1) _ (by omega)]
    rfl
theorem m_clim_loop (G : Gd (A 0) n a sg rs nn un) : ∀ (d c : Nat) (s : Int64), c + d = n → pt_M_digest_43 m s (nI c) (mH h m A I u v) = some (some (.long (31 * (31 * suL (A 0) 58 (2 * nn) 0 (clL (A 0) sg rs d c s) + u) + v)), mH h m A I u v) := by
  have e0 : A 0 0 = nI n := G.1.2.1
  have e2 : A 0 2 = nI sg := G.1.2.2.2.2.2.1
  have e3 : A 0 3 = nI rs := G.1.2.2.2.2.2.2.2
  have e4 : A 0 4 = nI nn := G.2.1.2.1
  have h6 := G.2.1.1
  have hn := G.1.1
  intro d
  induction d with
  | zero =>
    intro c s hc
    have e58 : (2 : Int32) * nI nn = nI (2 * nn) := pk_mul 2 nn
    rw [q_M_digest_43, mc, m_many, cI_some, e0, if_pos (nI_le (by omega) (by omega)), mr_0, ml_0_4, e4, mc, m_sums s 58 (2 * nn) (by omega) (by decide) e58, cL_some, mi_4, mi_5]
    rfl
  | succ d ih =>
    intro c s hc
    rw [q_M_digest_43, mc, m_many, cI_some, e0, if_neg (nI_ge (by omega) (by omega)), mc, m_sums s (38 + 4 * c) 4 (by omega) (ix_38 c) (by decide), cL_some, mr_0, ml_0_2, e2, mr_0, ml_0_3, e3, bt_shr sg (by have := G.1.sg32; omega) c (by omega), bt_shr rs (by have := G.1.rs32; omega) c (by omega), nI_1, ih (c + 1) _ (by omega)]
    rfl
theorem m_dig_loop (G : Gd (A 0) n a sg rs nn un) (hI : I 16 = nI L) : ∀ (d k : Nat) (s : Int64), k + d = 7 → pt_M_digest_6 m s (nI k) (mH h m A I u v) = some (some (.long (31 * (31 * suL (A 0) 58 (2 * nn) 0 (clL (A 0) sg rs n 0 (suL (A 0) 6 32 0 (cuL (ctV L n a sg rs nn un) d k s))) + u) + v)), mH h m A I u v) := by
  intro d
  induction d with
  | zero =>
    intro k s hk
    have e1 := fun s => m_clim_loop (h := h) (m := m) (I := I) (u := u) (v := v) G n 0 s (by omega)
    simp only [nI_0] at e1
    rw [q_M_digest_6, if_pos (show (7 : Int32) ≤ nI k from nI_le (a := 7) (by omega) (by omega)), mc, m_sums s 6 32 (by omega) (by decide) (by decide), cL_some, e1]
    rfl
  | succ d ih =>
    intro k s hk
    rw [q_M_digest_6, if_neg (show ¬ (7 : Int32) ≤ nI k from nI_ge (b := 7) (by omega) (by decide)), mc, m_counted G hI (by omega), cI_some, nI_1, ih (k + 1) _ (by omega)]
    rfl
end
section
variable {h : ab_H} {x m : Nat}
theorem j_digest (J : JR ro h x m) : JL ro (fn_X_digest x h) (fun k => fn_M_digest m k) x m := by
  obtain ⟨A, I, u, v, L, n, a, sg, rs, nn, un, W⟩ := J
  have e1 := x_dig_loop W 7 0 1153 (by omega)
  have e2 := m_dig_loop (h := h) (m := m) (u := u) (v := v) W.gd W.2.2.2.1 7 0 1153 (by omega)
  rw [nI_0] at e1 e2
  refine JL.mk ((q_X_digest x h).trans e1) W.1 ?_ (W.here (KQ.refl A I))
  rw [q_M_digest, e2]
theorem j_count (J : JR ro h x m) (w : Int32) : JI ro (fn_X_count x w h) (fun k => fn_M_count m w k) x m := by
  obtain ⟨A, I, u, v, L, n, a, sg, rs, nn, un, W⟩ := J
  rcases inV_d w 0 6 (by omega) (by omega) with e | ⟨e, k, -, hk, rfl⟩
  · have w0 : ¬ w = 0 := fun z => by subst z; exact absurd e (by decide)
    have w1 : ¬ w = 0 + 1 := fun z => by subst z; exact absurd e (by decide)
    have w2 : ¬ w = 0 + 1 + 1 := fun z => by subst z; exact absurd e (by decide)
    have w3 : ¬ w = 0 + 1 + 1 + 1 := fun z => by subst z; exact absurd e (by decide)
    have w4 : ¬ w = 0 + 1 + 1 + 1 + 1 := fun z => by subst z; exact absurd e (by decide)
    have w5 : ¬ w = 0 + 1 + 1 + 1 + 1 + 1 := fun z => by subst z; exact absurd e (by decide)
    have w6 : ¬ w = 0 + 1 + 1 + 1 + 1 + 1 + 1 := fun z => by subst z; exact absurd e (by decide)
    obtain ⟨h1, h2, e1, e2, e3, e4⟩ := j_bad W (-2)
    refine JI.mk (r := -2) ?_ e2 ?_ e4
    · rw [q_X_count, if_neg w0, if_neg w1, if_neg w2, if_neg w3, if_neg w4, if_neg w5, if_neg w6, xx_c W.cell, e1, cI_some]
    · rw [q_M_count, m_wn w 0 6 (by decide) (by decide), cI_some, e, if_pos rfl, mc, e3, cI_some]
  · refine JI.mk (x_count W hk) W.1 ?_ (W.here (KQ.refl A I))
    rw [q_M_count, m_wn _ 0 6 (by decide) (by decide), cI_some, e, if_neg z10, mc, m_counted W.gd W.2.2.2.1 hk, cI_some]
theorem j_part (J : JR ro h x m) (w : Int32) : JL ro (fn_X_part x w h) (fun k => fn_M_part m w k) x m := by
  obtain ⟨A, I, u, v, L, n, a, sg, rs, nn, un, W⟩ := J
  rcases inV_d w 0 1 (by omega) (by omega) with e | ⟨e, k, -, hk, rfl⟩
  · have w0 : ¬ w = 0 := fun z => by subst z; exact absurd e (by decide)
    have w1 : ¬ w = 1 := fun z => by subst z; exact absurd e (by decide)
    obtain ⟨h1, h2, e1, e2, e3, e4⟩ := j_bad W (-2)
    refine JL.mk (r := Int32.toInt64 (-2)) ?_ e2 ?_ e4
    · rw [q_X_part, x_isFlag, cI_some, e, if_pos rfl, xx_c W.cell, e1, cI_some]
    · rw [q_M_part, if_neg w0, if_neg w1, mc, e3, cI_some]
  · match k, hk with
    | 0, _ =>
      refine JL.mk (r := u) ?_ W.1 ?_ (W.here (KQ.refl A I))
      · rw [q_X_part, x_isFlag, cI_some, e, if_neg z10, if_pos (by decide), xx_9 W.cell]
      · rw [q_M_part, if_pos (by decide), mi_4]
    | 1, _ =>
      refine JL.mk (r := v) ?_ W.1 ?_ (W.here (KQ.refl A I))
      · rw [q_X_part, x_isFlag, cI_some, e, if_neg z10, if_neg (by decide), xx_10 W.cell]
      · rw [q_M_part, if_neg (by decide), if_pos (by decide), mi_5]
    | k + 2, hk => omega
end
end
