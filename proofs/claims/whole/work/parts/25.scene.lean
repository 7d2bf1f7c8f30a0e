/-! scenes -/
/-- what a scene holds: wall, how many, rope, notes, undos, where -/
abbrev Sc : Type := (Nat → Nat → Int32) × Nat × (Nat → Nat → Int32) × Nat × (Nat → Nat → Int32) × Nat × (Nat → Nat → Int32) × Nat
abbrev scW (c : Sc) : Nat → Nat → Int32 := c.1
abbrev scn (c : Sc) : Nat := c.2.1
abbrev scR (c : Sc) : Nat → Nat → Int32 := c.2.2.1
abbrev scm (c : Sc) : Nat := c.2.2.2.1
abbrev scN (c : Sc) : Nat → Nat → Int32 := c.2.2.2.2.1
abbrev scu (c : Sc) : Nat := c.2.2.2.2.2.1
abbrev scU (c : Sc) : Nat → Nat → Int32 := c.2.2.2.2.2.2.1
abbrev sca (c : Sc) : Nat := c.2.2.2.2.2.2.2
def SceneAt (h : ab_H) (s : Nat) (c : Sc) : Prop :=
  ab_get h s = some (.inr (3, [.ref (s + 1), .ref (s + 6), .ref (s + 14), .ref (s + 17), .int (nI (sca c))])) ∧ WallAt h (s + 1) (scW c) ∧ RopeAt h (s + 6) (scn c) (scR c) ∧ NotesAt h (s + 14) (scm c) (scN c) ∧ UndosAt h (s + 17) (scu c) (scU c)
theorem SceneAt.frm {h h' : ab_H} {s a m : Nat} {c : Sc} (hs : SceneAt h s c) (f : Frm h h' a m) (hd : s + 21 ≤ a ∨ a + m ≤ s) : SceneAt h' s c :=
  ⟨by rw [f.2 _ (by omega)]; exact hs.1, hs.2.1.frm f (by omega), hs.2.2.1.frm f (by omega), hs.2.2.2.1.frm f (by omega), hs.2.2.2.2.frm f (by omega)⟩
section
variable {T : Type} {h h' : ab_H} {s : Nat} {c : Sc}
theorem sc_w (hs : SceneAt h s c) (K : Nat → Option T) : ab_gfr h s 3 0 K = K (s + 1) := gfr_at hs.1 rfl K
theorem sc_r (hs : SceneAt h s c) (K : Nat → Option T) : ab_gfr h s 3 1 K = K (s + 6) := gfr_at hs.1 rfl K
theorem sc_t (hs : SceneAt h s c) (K : Nat → Option T) : ab_gfr h s 3 2 K = K (s + 14) := gfr_at hs.1 rfl K
theorem sc_u (hs : SceneAt h s c) (K : Nat → Option T) : ab_gfr h s 3 3 K = K (s + 17) := gfr_at hs.1 rfl K
theorem sc_a (hs : SceneAt h s c) (K : Int32 → Option T) : ab_gfi h s 3 4 K = K (nI (sca c)) := gfi_at hs.1 rfl K
theorem sc_c (hs : SceneAt h s c) (K : Option T) : ab_ckc h s 3 K = K := ckc_at hs.1 K
theorem sc_p (hs : SceneAt h s c) (x : Int32) (K : ab_H → Option T) : ab_pf h s 3 4 (.int x) K = K (ab_set h s (.inr (3, [.ref (s + 1), .ref (s + 6), .ref (s + 14), .ref (s + 17), .int x]))) := pf_at hs.1 (show 4 < 5 by decide) _ K
theorem sc_pa (hs : SceneAt h s c) (a : Nat) : SceneAt (ab_set h s (.inr (3, [.ref (s + 1), .ref (s + 6), .ref (s + 14), .ref (s + 17), .int (nI a)]))) s (scW c, scn c, scR c, scm c, scN c, scu c, scU c, a) :=
  ⟨get_same _ _ _, hs.2.1.frm (Frm.set _ _ _) (by omega), hs.2.2.1.frm (Frm.set _ _ _) (by omega), hs.2.2.2.1.frm (Frm.set _ _ _) (by omega), hs.2.2.2.2.frm (Frm.set _ _ _) (by omega)⟩
theorem sc_uW (hs : SceneAt h s c) (f : Frm h h' (s + 1) 5) {W : Nat → Nat → Int32} (hw : WallAt h' (s + 1) W) : SceneAt h' s (W, scn c, scR c, scm c, scN c, scu c, scU c, sca c) :=
  ⟨by rw [f.2 _ (by omega)]; exact hs.1, hw, hs.2.2.1.frm f (by omega), hs.2.2.2.1.frm f (by omega), hs.2.2.2.2.frm f (by omega)⟩
theorem sc_uR (hs : SceneAt h s c) (f : Frm h h' (s + 6) 8) {n : Nat} {R : Nat → Nat → Int32} (hr : RopeAt h' (s + 6) n R) : SceneAt h' s (scW c, n, R, scm c, scN c, scu c, scU c, sca c) :=
  ⟨by rw [f.2 _ (by omega)]; exact hs.1, hs.2.1.frm f (by omega), hr, hs.2.2.2.1.frm f (by omega), hs.2.2.2.2.frm f (by omega)⟩
theorem sc_uN (hs : SceneAt h s c) (f : Frm h h' (s + 14) 3) {n : Nat} {N : Nat → Nat → Int32} (hn : NotesAt h' (s + 14) n N) : SceneAt h' s (scW c, scn c, scR c, n, N, scu c, scU c, sca c) :=
  ⟨by rw [f.2 _ (by omega)]; exact hs.1, hs.2.1.frm f (by omega), hs.2.2.1.frm f (by omega), hn, hs.2.2.2.2.frm f (by omega)⟩
theorem sc_uU (hs : SceneAt h s c) (f : Frm h h' (s + 17) 4) {n : Nat} {U : Nat → Nat → Int32} (hu : UndosAt h' (s + 17) n U) : SceneAt h' s (scW c, scn c, scR c, scm c, scN c, n, U, sca c) :=
  ⟨by rw [f.2 _ (by omega)]; exact hs.1, hs.2.1.frm f (by omega), hs.2.2.1.frm f (by omega), hs.2.2.2.1.frm f (by omega), hu⟩
end
theorem s_sreset {h : ab_H} {s : Nat} {c : Sc} (hs : SceneAt h s c) : ∃ h', fn_Scene_reset s h = some (none, h') ∧ SceneAt h' s (wall0 8 (scW c), 0, scR c, 0, scN c, 0, scU c, 0) ∧ Frm h h' s 21 := by
  obtain ⟨h1, e1, w1, f1⟩ := s_wreset hs.2.1
  have s1 := sc_uW hs f1 w1
  rw [q_Scene_reset, sc_w hs, wl_c hs.2.1, e1, cV_some, sc_r s1, rp_pn s1.2.2.1]
  have g2 := Frm.set h1 (s + 6) (.inr (2, [.int (nI 0), .ref (s + 6 + 1), .ref (s + 6 + 2), .ref (s + 6 + 3), .ref (s + 6 + 4), .ref (s + 6 + 5), .ref (s + 6 + 6), .ref (s + 6 + 7)]))
  have s2 := sc_uR s1 (g2.wide (by omega) (by omega)) (rp_sn (m := 0) s1.2.2.1)
  rw [show (0 : Int32) = nI 0 from nI_0.symm, sc_t s2, nt_p s2.2.2.2.1]
  have g3 := Frm.set (ab_set h1 (s + 6) (.inr (2, [.int (nI 0), .ref (s + 6 + 1), .ref (s + 6 + 2), .ref (s + 6 + 3), .ref (s + 6 + 4), .ref (s + 6 + 5), .ref (s + 6 + 6), .ref (s + 6 + 7)]))) (s + 14) (.inr (1, [.int (nI 0), .ref (s + 14 + 1), .ref (s + 14 + 2)]))
  have s3 := sc_uN s2 (g3.wide (by omega) (by omega)) (nt_sn s2.2.2.2.1 0)
  rw [sc_u s3, un_p s3.2.2.2.2]
  have g4 := Frm.set (ab_set (ab_set h1 (s + 6) (.inr (2, [.int (nI 0), .ref (s + 6 + 1), .ref (s + 6 + 2), .ref (s + 6 + 3), .ref (s + 6 + 4), .ref (s + 6 + 5), .ref (s + 6 + 6), .ref (s + 6 + 7)]))) (s + 14) (.inr (1, [.int (nI 0), .ref (s + 14 + 1), .ref (s + 14 + 2)]))) (s + 17) (.inr (6, [.int (nI 0), .ref (s + 17 + 1), .ref (s + 17 + 2), .ref (s + 17 + 3)]))
  have s4 := sc_uU s3 (g4.wide (by omega) (by omega)) (un_sn s3.2.2.2.2 0)
  rw [sc_p s4]
  exact ⟨_, rfl, sc_pa s4 0, ((((f1.wide (by omega) (by omega)).trans (g2.wide (by omega) (by omega))).trans (g3.wide (by omega) (by omega))).trans (g4.wide (by omega) (by omega))).trans ((Frm.set _ _ _).wide (by omega) (by omega))⟩
/-- a scene copied over another -/
def scC (c d : Sc) : Sc := (cpyR (scW d) (scW c) 8, scn d, tieU (scR c) (scR d) 0 (scn d), scm d, cpyR (scN d) (scN c) 6, scu d, cpyR (scU d) (scU c) 8, sca d)
theorem s_sceneCopy {h : ab_H} {s o : Nat} {c d : Sc} (hs : SceneAt h s c) (ho : SceneAt h o d) (hd : s + 21 ≤ o ∨ o + 21 ≤ s) (hn : scn d ≤ 5) : ∃ h', fn_Scene_copyFrom s o h = some (none, h') ∧ SceneAt h' s (scC c d) ∧ Frm h h' s 21 := by
  obtain ⟨h1, e1, w1, f1⟩ := s_wallCopy hs.2.1 ho.2.1 (by omega)
  have s1 := sc_uW hs f1 w1
  have o1 := ho.frm f1 (by omega)
  rw [q_Scene_copyFrom, sc_w hs, sc_w ho, wl_c hs.2.1, e1, cV_some, sc_r s1, sc_r o1, rp_c s1.2.2.1]
  obtain ⟨h2, e2, w2, f2⟩ := s_ropeCopy s1.2.2.1 o1.2.2.1 (by omega) hn
  have s2 := sc_uR s1 f2 w2
  have o2 := o1.frm f2 (by omega)
  rw [e2, cV_some, sc_t s2, sc_t o2, nt_c s2.2.2.2.1]
  obtain ⟨h3, e3, w3, f3⟩ := s_notesCopy s2.2.2.2.1 o2.2.2.2.1 (by omega)
  have s3 := sc_uN s2 f3 w3
  have o3 := o2.frm f3 (by omega)
  rw [e3, cV_some, sc_u s3, sc_u o3, un_c s3.2.2.2.2]
  obtain ⟨h4, e4, w4, f4⟩ := s_undosCopy s3.2.2.2.2 o3.2.2.2.2 (by omega)
  have s4 := sc_uU s3 f4 w4
  have o4 := o3.frm f4 (by omega)
  rw [e4, cV_some, sc_a o4, sc_p s4]
  exact ⟨_, rfl, sc_pa s4 (sca d), ((((f1.wide (by omega) (by omega)).trans (f2.wide (by omega) (by omega))).trans (f3.wide (by omega) (by omega))).trans (f4.wide (by omega) (by omega))).trans ((Frm.set _ _ _).wide (by omega) (by omega))⟩
/-- a scene with its undos one longer -/
def scP (c : Sc) (sm rm : Nat) : Sc := (scW c, scn c, scR c, scm c, scN c, (if scu c < 8 then scu c + 1 else 8), (if scu c < 8 then pusU (scU c) (scu c) (nI (sca c)) (nI sm) (nI rm) else pusU (drpU (scU c) 7) 7 (nI (sca c)) (nI sm) (nI rm)), sca c)
theorem s_remember {h : ab_H} {s sm rm : Nat} {c : Sc} (hs : SceneAt h s c) (hn : scn c ≤ 5) (hu : scu c ≤ 8) (h1 : sm < 2 ^ scn c) (h2 : rm < 2 ^ scn c) (b1 : ∀ i, i < scn c → scR c 5 i = bt1 sm i) (b2 : ∀ i, i < scn c → scR c 6 i = bt1 rm i) : ∃ h', fn_Scene_remember s h = some (none, h') ∧ SceneAt h' s (scP c sm rm) ∧ Frm h h' (s + 17) 4 := by
  rw [q_Scene_remember, sc_u hs, sc_a hs, sc_r hs, rp_c hs.2.2.1, s_sagBits hs.2.2.1 hn h1 b1, cI_some, sc_r hs, rp_c hs.2.2.1, s_restBits hs.2.2.1 hn h2 b2, cI_some, un_c hs.2.2.2.2]
  obtain ⟨h3, e3, u3, f3⟩ := s_push hs.2.2.2.2 hu (nI (sca c)) (nI sm) (nI rm)
  rw [e3, cV_some]
  exact ⟨h3, rfl, sc_uU hs f3 u3, f3⟩
/-- a scene gone back by one -/
def scB (c : Sc) (a sm rm : Nat) : Sc := (scW c, scn c, ropU (ropU (scR c) 5 (btU sm (scR c 5) (scn c))) 6 (btU rm (scR c 6) (scn c)), scm c, scN c, scu c - 1, scU c, a)
theorem s_goBack {h : ab_H} {s a sm rm : Nat} {c : Sc} (hs : SceneAt h s c) (hn : scn c ≤ 5) (hu : scu c ≤ 8) (hu0 : 0 < scu c) (h1 : sm < 256) (h2 : rm < 256) (e0 : scU c 0 (scu c - 1) = nI a) (e1 : scU c 1 (scu c - 1) = nI sm) (e2 : scU c 2 (scu c - 1) = nI rm) : ∃ h', fn_Scene_goBack s h = some (none, h') ∧ SceneAt h' s (scB c a sm rm) ∧ Frm h h' s 21 := by
  have hu8 : scu c - 1 < 8 := by omega
  rw [q_Scene_goBack, sc_u hs, un_n hs.2.2.2.2, if_pos (show (0 : Int32) < nI (scu c) from by rw [← nI_0]; exact nI_lt hu0 (by omega)), sc_u hs, un_n hs.2.2.2.2, un_p hs.2.2.2.2, show nI (scu c) - 1 = nI (scu c - 1) from by
    conv => lhs; rw [show scu c = scu c - 1 + 1 by omega]
    exact nI_pred _]
  have g1 := Frm.set h (s + 17) (.inr (6, [.int (nI (scu c - 1)), .ref (s + 17 + 1), .ref (s + 17 + 2), .ref (s + 17 + 3)]))
  have s1 := sc_uU hs (g1.wide (by omega) (by omega)) (un_sn hs.2.2.2.2 (scu c - 1))
  rw [sc_u s1, un_r0 s1.2.2.2.2, sc_u s1, un_n s1.2.2.2.2, un_l0 s1.2.2.2.2 hu8, e0, sc_p s1]
  have s2 := sc_pa s1 a
  have g2 := Frm.set (ab_set h (s + 17) (.inr (6, [.int (nI (scu c - 1)), .ref (s + 17 + 1), .ref (s + 17 + 2), .ref (s + 17 + 3)]))) s (.inr (3, [.ref (s + 1), .ref (s + 6), .ref (s + 14), .ref (s + 17), .int (nI a)]))
  rw [sc_r s2, sc_u s2, un_r1 s2.2.2.2.2, sc_u s2, un_n s2.2.2.2.2, un_l1 s2.2.2.2.2 hu8, e1, rp_c s2.2.2.1, s_setSags s2.2.2.1 hn h1, cV_some]
  have g3 := Frm.set (ab_set (ab_set h (s + 17) (.inr (6, [.int (nI (scu c - 1)), .ref (s + 17 + 1), .ref (s + 17 + 2), .ref (s + 17 + 3)]))) s (.inr (3, [.ref (s + 1), .ref (s + 6), .ref (s + 14), .ref (s + 17), .int (nI a)]))) (s + 6 + 6) (.inl (0, 5, btU sm (scR c 5) (scn c)))
  have s3 := sc_uR s2 (g3.wide (by omega) (by omega)) (rope_set5 s2.2.2.1 (btU sm (scR c 5) (scn c)))
  rw [sc_r s3, sc_u s3, un_r2 s3.2.2.2.2, sc_u s3, un_n s3.2.2.2.2, un_l2 s3.2.2.2.2 hu8, e2, rp_c s3.2.2.1, s_setRests s3.2.2.1 hn h2, cV_some]
  have g4 := Frm.set (ab_set (ab_set (ab_set h (s + 17) (.inr (6, [.int (nI (scu c - 1)), .ref (s + 17 + 1), .ref (s + 17 + 2), .ref (s + 17 + 3)]))) s (.inr (3, [.ref (s + 1), .ref (s + 6), .ref (s + 14), .ref (s + 17), .int (nI a)]))) (s + 6 + 6) (.inl (0, 5, btU sm (scR c 5) (scn c)))) (s + 6 + 7) (.inl (0, 5, btU rm (scR c 6) (scn c)))
  have s4 := sc_uR s3 (g4.wide (by omega) (by omega)) (rope_set6 s3.2.2.1 (btU rm (scR c 6) (scn c)))
  exact ⟨_, rfl, s4, (((g1.wide (by omega) (by omega)).trans (g2.wide (by omega) (by omega))).trans (g3.wide (by omega) (by omega))).trans (g4.wide (by omega) (by omega))⟩
