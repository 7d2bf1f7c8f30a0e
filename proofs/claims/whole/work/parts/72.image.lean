/-! both sides: undo, image, from -/
section
variable {ro : Nat → Option ab_Ce}
def udF (g : Nat → Int32) (w k : Nat) : Nat → Int32 := fun i => if 1 ≤ i ∧ i < 1 + k then g (70 + 3 * w + (i - 1)) else g i
theorem udF_s (g : Nat → Int32) (w k : Nat) (hk : k < 3) : upd (udF g w k) (1 + k) (udF g w k (70 + 3 * w + k)) = udF g w (k + 1) := by
  funext i
  unfold upd udF
  by_cases h1 : i = 1 + k
  · subst h1
    rw [if_pos rfl, if_neg (by omega), if_pos (by omega)]
    exact congrArg g (by omega)
  · rw [if_neg h1]
    by_cases h2 : 1 ≤ i ∧ i < 1 + k
    · rw [if_pos h2, if_pos (by omega)]
    · rw [if_neg h2, if_neg (by omega)]
theorem m_undo_loop {h : ab_H} {m : Nat} {A : Nat → Nat → Int32} {I : Nat → Int32} {u v : Int64} (g : Nat → Int32) {w : Nat} (hw : w ≤ 7) (e5 : g 5 = nI w) : ∀ (d k : Nat), k + d = 3 → pt_M_undo_26 m (nI k) (mH h m (ropU A 0 (udF g w k)) I u v) = some (some (.int (g (70 + 3 * w))), mH h m (ropU A 0 (udF g w 3)) I u v) := by
  have p5 : ∀ k, k ≤ 3 → udF g w k 5 = nI w := fun k hk => by
    unfold udF
    rw [if_neg (by omega)]
    exact e5
  intro d
  induction d with
  | zero =>
    intro k hk
    have e : k = 3 := by omega
    subst e
    rw [q_M_undo_26, if_pos (by decide), mr_0, ml_0_1, ropU_at]
    rfl
  | succ d ih =>
    intro k hk
    have e1 : (1 : Int32) + nI k = nI (1 + k) := nI_add 1 k
    rw [q_M_undo_26, if_neg (show ¬ (3 : Int32) ≤ nI k from nI_ge (b := 3) (by omega) (by decide)), mr_0, mr_0, mr_0, ml_0_5, ropU_at, p5 k (by omega), ix_70, nI_add, ml_0 (by omega), e1, ma_0 (by omega), ropU_rr, ropU_at, udF_s g w k (by omega), nI_1]
    exact ih (k + 1) (by omega)
theorem Gd.all {f g : Nat → Int32} {n a sg rs nn un : Nat} (G : Gd f n a sg rs nn un) (e : ∀ k, k < 94 → g k = f k) : Gd g n a sg rs nn un := by
  have hu := G.2.2.2.1
  exact ⟨G.1.cong (fun k hk => e k (by omega)), G.2.1.cong (e 4 (by omega)) (fun k h1 h2 => e k (by omega)), wo_cong G.2.2.1 (fun k h1 h2 => e k (by omega)), hu, (e 5 (by omega)).trans G.2.2.2.2.1, un_cong hu G.2.2.2.2.2 (fun k h1 h2 => e k (by omega))⟩
theorem ScIs.all {h : ab_H} {s : Nat} {f g : Nat → Int32} {n a sg rs nn un : Nat} (S : ScIs h s f n a sg rs nn un) (G : Gd f n a sg rs nn un) (e : ∀ k, k < 94 → g k = f k) : ScIs h s g n a sg rs nn un := by
  obtain ⟨W, R, N, U, s1, s2, s3, s4, s5⟩ := S
  exact ⟨W, R, N, U, s1, we_cong s2 (fun k h1 h2 => e k (by omega)), re_cong s3 G.1.1 (fun k h1 h2 => e k (by omega)), nf_cong G.2.1.1 s4 (fun k h1 h2 => e k (by omega)), uf_cong G.2.2.2.1 s5 (fun k h1 h2 => e k (by omega))⟩
theorem sc_copy {h : ab_H} {s o : Nat} {f : Nat → Int32} {n a sg rs nn un : Nat} (D : Shp h s) (S : ScIs h o f n a sg rs nn un) (G : Gd f n a sg rs nn un) (hd : s + 21 ≤ o ∨ o + 21 ≤ s) : ∃ h', (∀ {T : Type} (K : ab_H → Option T), ab_ckc h s 3 (ab_cV (fn_Scene_copyFrom s o h) K) = K h') ∧ ScIs h' s f n a sg rs nn un ∧ Frm h h' s 21 := by
  obtain ⟨c, d1⟩ := D
  obtain ⟨W, R, N, U, s1, s2, s3, s4, s5⟩ := S
  obtain ⟨h', e1, t1, f1⟩ := s_sceneCopy d1 s1 hd G.1.1
  have h6 := G.2.1.1
  have h8 := G.2.2.2.1
  refine ⟨h', fun K => by rw [sc_c d1, e1, cV_some], ⟨_, _, _, _, t1, fun j hj p hp => ?_, fun j hj i hi => ?_, fun j hj i hi => ?_, fun j hj i hi => ?_⟩, f1⟩
  · show va_cpy (W j) (scW c j) 0 0 8 p = _
    rw [pk_cpy_in (by omega) (by omega), Nat.zero_add, Nat.sub_zero]
    exact s2 j hj p hp
  · show tieU (scR c) R 0 n j i = _
    unfold tieU
    rw [if_pos hi, Nat.zero_add]
    exact s3 j hj i hi
  · have hi : i < nn := hi
    show va_cpy (N j) (scN c j) 0 0 6 i = _
    rw [pk_cpy_in (by omega) (by omega), Nat.zero_add, Nat.sub_zero]
    exact s4 j hj i hi
  · have hi : i < un := hi
    show va_cpy (U j) (scU c j) 0 0 8 i = _
    rw [pk_cpy_in (by omega) (by omega), Nat.zero_add, Nat.sub_zero]
    exact s5 j hj i hi
theorem aald_at {T : Type} {h : ab_H} {a p y : Nat} {fs : List Value} (e : ab_get h a = some (.inr (30, fs))) (hp : p < 2 ^ 31) (hk : fs[p]? = some (.ref y)) (K : Nat → Option T) : ab_aald h a (nI p) K = K y := by
  unfold ab_aald
  rw [e]
  simp only
  rw [nI_clamp hp, if_pos ⟨trivial, nI_pos' hp⟩, hk]
theorem ix_94 (i k : Nat) : (94 : Int32) * nI i + nI k = nI (94 * i + k) := by
  have : (94 : Int32) * nI i = nI (94 * i) := (Int32.ofNat_mul 94 i).symm
  rw [this, nI_add]
section
variable {h : ab_H} {m : Nat} {A : Nat → Nat → Int32} {I : Nat → Int32} {u v : Int64}
theorem m_img_loop {i : Nat} (hi : i ≤ 1) : ∀ (d k : Nat) (kp : Nat → Int32), k + d = 94 → (∀ j, j < k → kp (94 * i + j) = A 0 j) → (∀ j, j < 94 * i ∨ 94 * i + 94 ≤ j → kp j = A 1 j) → ∃ kp', pt_M_image_19 m (nI i) (nI k) (mH h m (ropU A 1 kp) I u v) = some (some (.int 1), mH h m (ropU (ropU A 1 kp') 2 (upd (A 2) i 1)) I u v) ∧ (∀ j, j < 94 → kp' (94 * i + j) = A 0 j) ∧ (∀ j, j < 94 * i ∨ 94 * i + 94 ≤ j → kp' j = A 1 j) := by
  intro d
  induction d with
  | zero =>
    intro k kp hk h1 h2
    rw [q_M_image_19, if_pos (show (94 : Int32) ≤ nI k from nI_le (a := 94) (by omega) (by omega)), mr_2, ma_b (by omega)]
    exact ⟨kp, rfl, fun j hj => h1 j (by omega), h2⟩
  | succ d ih =>
    intro k kp hk h1 h2
    rw [q_M_image_19, if_neg (show ¬ (94 : Int32) ≤ nI k from nI_ge (b := 94) (by omega) (by decide)), mr_1, mr_0, ml_0 (by omega), ix_94, ma_1 (by omega), ropU_rr, ropU_at, nI_1]
    refine ih (k + 1) (upd kp (94 * i + k) (A 0 k)) (by omega) (fun j hj => ?_) (fun j hj => ?_)
    · by_cases e : j = k
      · subst e
        exact up_at _ _ _
      · rw [up_ne _ _ (by omega)]
        exact h1 j (by omega)
    · rw [up_ne _ _ (by omega)]
      exact h2 j hj
theorem m_frm_loop {i : Nat} (hi : i ≤ 1) : ∀ (d k : Nat) (g : Nat → Int32), k + d = 94 → (∀ j, j < k → g j = A 1 (94 * i + j)) → ∃ g', pt_M_from_33 m (nI i) (nI k) (mH h m (ropU A 0 g) I u v) = some (some (.int 1), mH h m (ropU A 0 g') I u v) ∧ (∀ j, j < 94 → g' j = A 1 (94 * i + j)) := by
  intro d
  induction d with
  | zero =>
    intro k g hk h1
    rw [q_M_from_33, if_pos (show (94 : Int32) ≤ nI k from nI_le (a := 94) (by omega) (by omega))]
    exact ⟨g, rfl, fun j hj => h1 j (by omega)⟩
  | succ d ih =>
    intro k g hk h1
    rw [q_M_from_33, if_neg (show ¬ (94 : Int32) ≤ nI k from nI_ge (b := 94) (by omega) (by decide)), mr_0, mr_1, ix_94, ml_1 (by omega), ma_0 (by omega), ropU_rr, ropU_at, nI_1]
    refine ih (k + 1) _ (by omega) (fun j hj => ?_)
    by_cases e : j = k
    · subst e
      exact up_at _ _ _
    · rw [up_ne _ _ e]
      exact h1 j (by omega)
end
section
variable {h : ab_H} {x m : Nat}
theorem j_undo (J : JR ro h x m) : JI ro (fn_X_undo x h) (fun k => fn_M_undo m k) x m := by
  obtain ⟨A, I, u, v, L, n, a, sg, rs, nn, un, W⟩ := J
  have G := W.gd
  have c1 := W.cell
  have hn := G.1.1
  have hu := G.2.2.2.1
  have e5 : A 0 5 = nI un := G.2.2.2.2.1
  obtain ⟨Wl, R, N, U, s1, s2, s3, s4, s5⟩ := W.sc
  by_cases h0 : un = 0
  · subst h0
    obtain ⟨h1, h2, e1, e2, e3, e4⟩ := j_no W
    refine JI.mk (r := -3) ?_ e2 ?_ e4
    · rw [q_X_undo, xx_0 c1, sc_u s1, un_n s1.2.2.2.2, if_neg (show ¬ (0 : Int32) < nI 0 by decide), xx_c c1, e1, cI_some]
    · rw [q_M_undo, mr_0, ml_0_5, e5, if_pos (show nI 0 = 0 from nI_0), mc, e3, cI_some]
  · obtain ⟨w, rfl⟩ : ∃ w, un = w + 1 := ⟨un - 1, by omega⟩
    obtain ⟨b, s, r, b1, b2, b3, b4, b5, b6⟩ := G.2.2.2.2.2 w (by omega)
    have h32 := pow_le32 hn
    obtain ⟨h1, e1, t1, f1⟩ := s_goBack (a := b) (sm := s) (rm := r) s1 hn hu (show 0 < w + 1 by omega) (by omega) (by omega) ((s5 0 (by decide) w (by omega)).trans b4) ((s5 1 (by decide) w (by omega)).trans b5) ((s5 2 (by decide) w (by omega)).trans b6)
    have c2 : ab_get h1 x = some (.inr (10, xFs x u v (A 3))) := by rw [f1.2 _ (by omega)]; exact c1
    have S' : SceneAt h1 (x + 1) (Wl, n, ropU (ropU R 5 (btU s (R 5) n)) 6 (btU r (R 6) n), nn, N, w, U, b) := t1
    have lp := m_undo_loop (h := h1) (m := m) (A := A) (I := I) (u := u) (v := v) (upd (A 0) 5 (nI w)) (w := w) (by omega) (up_at _ _ _) 3 0 (by omega)
    have z0 : udF (upd (A 0) 5 (nI w)) w 0 = upd (A 0) 5 (nI w) := by
      funext i
      unfold udF
      rw [if_neg (by omega)]
    rw [z0, nI_0, up_ne _ _ (by omega), b4] at lp
    have ev : ∀ k, udF (upd (A 0) 5 (nI w)) w 3 k = if 1 ≤ k ∧ k < 1 + 3 then upd (A 0) 5 (nI w) (70 + 3 * w + (k - 1)) else upd (A 0) 5 (nI w) k := fun k => rfl
    have g0 : ∀ k, k ≠ 5 → k ≠ 1 → k ≠ 2 → k ≠ 3 → udF (upd (A 0) 5 (nI w)) w 3 k = A 0 k := fun k h1 h2 h3 h4 => by
      rw [ev, if_neg (by omega), up_ne _ _ h1]
    have g1 : udF (upd (A 0) 5 (nI w)) w 3 1 = nI b := by
      rw [ev, if_pos (by omega), up_ne _ _ (by omega)]
      exact b4
    have g2 : udF (upd (A 0) 5 (nI w)) w 3 2 = nI s := by
      rw [ev, if_pos (by omega), up_ne _ _ (by omega)]
      exact b5
    have g3 : udF (upd (A 0) 5 (nI w)) w 3 3 = nI r := by
      rw [ev, if_pos (by omega), up_ne _ _ (by omega)]
      exact b6
    have g5 : udF (upd (A 0) 5 (nI w)) w 3 5 = nI w := by
      rw [ev, if_neg (by omega), up_at]
    generalize udF (upd (A 0) 5 (nI w)) w 3 = g at lp g0 g1 g2 g3 g5
    have G' : Gd g n b s r nn w := ⟨⟨hn, (g0 0 (by omega) (by omega) (by omega) (by omega)).trans G.1.2.1, b1, g1, b2, g2, b3, g3⟩, G.2.1.cong (g0 4 (by omega) (by omega) (by omega) (by omega)) (fun k h1 h2 => g0 k (by omega) (by omega) (by omega) (by omega)), wo_cong G.2.2.1 (fun k h1 h2 => g0 k (by omega) (by omega) (by omega) (by omega)), by omega, g5, un_cong (by omega) (fun i hi => G.2.2.2.2.2 i (by omega)) (fun k h1 h2 => g0 k (by omega) (by omega) (by omega) (by omega))⟩
    refine JI.mk (r := nI b) ?_ (W.mid f1 (by omega)) ?_ (W.now f1 ⟨_, _, _, _, S', we_cong s2 (fun k h1 h2 => g0 k (by omega) (by omega) (by omega) (by omega)), ?_, nf_cong G.2.1.1 s4 (fun k h1 h2 => g0 k (by omega) (by omega) (by omega) (by omega)), uf_cong (by omega) (fun j hj i hi => s5 j hj i (by omega)) (fun k h1 h2 => g0 k (by omega) (by omega) (by omega) (by omega))⟩ G' (KQ.refl _ I))
    · rw [q_X_undo, xx_0 c1, sc_u s1, un_n s1.2.2.2.2]
      show (if 0 < nI (w + 1) then _ else _) = _
      rw [if_pos (show (0 : Int32) < nI (w + 1) from nI_lt (a := 0) (by omega) (by omega)), xx_0 c1, sc_c s1, e1, cV_some, xx_0 c2, sc_a S']
    · rw [q_M_undo, mr_0, ml_0_5, e5, if_neg (nI_ne0 (by omega) (by omega)), mr_0, ml_0_5, e5, nI_pred, ma_0_5, lp]
    · have s3' := re_cong s3 hn (g := g) (fun k h1 h2 => g0 k (by omega) (by omega) (by omega) (by omega))
      intro j hj i hi
      have m0 : ∀ j, j ≠ 5 → j ≠ 6 → ropU (ropU R 5 (btU s (R 5) n)) 6 (btU r (R 6) n) j i = R j i := fun j h5 h6 => by
        rw [ropU_ne _ _ h6, ropU_ne _ _ h5]
      match j, hj with
      | 0, hj => exact (m0 0 (by decide) (by decide)).trans (s3' 0 hj i hi)
      | 1, hj => exact (m0 1 (by decide) (by decide)).trans (s3' 1 hj i hi)
      | 2, hj => exact (m0 2 (by decide) (by decide)).trans (s3' 2 hj i hi)
      | 3, hj => exact (m0 3 (by decide) (by decide)).trans (s3' 3 hj i hi)
      | 4, hj => exact (m0 4 (by decide) (by decide)).trans (s3' 4 hj i hi)
      | 5, _ =>
        show btU s (R 5) n i = bt1 s i
        unfold btU
        rw [if_pos hi]
      | 6, _ =>
        show btU r (R 6) n i = bt1 r i
        unfold btU
        rw [if_pos hi]
      | k + 7, hj => omega
theorem j_image (J : JR ro h x m) (i : Int32) : JI ro (fn_X_image x i h) (fun k => fn_M_image m i k) x m := by
  obtain ⟨A, I, u, v, L, n, a, sg, rs, nn, un, W⟩ := J
  have G := W.gd
  have c1 := W.cell
  obtain ⟨w1, w2, w3, w4, w5, ⟨x1, x2, x3, ⟨i1, i2, i3, i4, i5, i6⟩, x5⟩, w7, w8⟩ := id W
  rcases inV_d i 0 1 (by omega) (by omega) with e | ⟨e, k, -, hk, rfl⟩
  · obtain ⟨h1, h2, e1, e2, e3, e4⟩ := j_bad W (-2)
    refine JI.mk (r := -2) ?_ e2 ?_ e4
    · rw [q_X_image, x_wn i 0 1 (by decide) (by decide), cI_some, e, if_pos rfl, xx_c c1, e1, cI_some]
    · rw [q_M_image, m_wn i 0 1 (by decide) (by decide), cI_some, e, if_pos rfl, mc, e3, cI_some]
  · -- the place of the image
    obtain ⟨s, hs1, hs2, hs3⟩ : ∃ s : Nat, ([.ref (x + 44), .ref (x + 65)] : List Value)[k]? = some (.ref s) ∧ Shp h s ∧ ((k = 0 ∧ s = x + 44) ∨ (k = 1 ∧ s = x + 65)) := by
      match k, hk with
      | 0, _ => exact ⟨x + 44, rfl, i3, Or.inl ⟨rfl, rfl⟩⟩
      | 1, _ => exact ⟨x + 65, rfl, i4, Or.inr ⟨rfl, rfl⟩⟩
      | k + 2, hk => omega
    obtain ⟨h1, e1, t1, f1⟩ := sc_copy hs2 x2 G (by omega)
    have c2 : ab_get h1 x = some (.inr (10, xFs x u v (A 3))) := by rw [f1.2 _ (by omega)]; exact c1
    have k1 : ab_get h1 (x + 86) = some (.inl (0, 2, A 2)) := by rw [f1.2 _ (by omega)]; exact i2
    have f2 := Frm.set h1 (x + 86) (.inl (0, 2, upd (A 2) k 1))
    have f3 : Frm h (ab_set h1 (x + 86) (.inl (0, 2, upd (A 2) k 1))) (x + 44) 43 := (f1.wide (by omega) (by omega)).trans (f2.wide (by omega) (by omega))
    have eX : fn_X_image x (nI k) h = some (some (.int 1), ab_set h1 (x + 86) (.inl (0, 2, upd (A 2) k 1))) := by
      rw [q_X_image, x_wn _ 0 1 (by decide) (by decide), cI_some, e, if_neg z10, xx_2 c1, aald_at i1 (by omega) hs1, xx_0 c1, e1, xx_3 c2, iast_at k1 (by omega) (by decide)]
    have em := W.mid f3 (by omega)
    have t2 := t1.frm f2 (by omega)
    have k2 : ab_get (ab_set h1 (x + 86) (.inl (0, 2, upd (A 2) k 1))) (x + 86) = some (.inl (0, 2, upd (A 2) k 1)) := get_same _ _ _
    obtain ⟨kp, e2, r1, r2⟩ := m_img_loop (h := ab_set h1 (x + 86) (.inl (0, 2, upd (A 2) k 1))) (m := m) (A := A) (I := I) (u := u) (v := v) hk 94 0 (A 1) (by omega) (fun j hj => absurd hj (Nat.not_lt_zero j)) (fun _ _ => rfl)
    rw [ropU_self, nI_0] at e2
    have imk : ∀ j, j < 94 → im kp k j = A 0 j := r1
    have imo : ∀ q, q ≤ 1 → q ≠ k → ∀ j, j < 94 → im kp q j = im (A 1) q j := fun q h1 h2 j hj => r2 _ (by omega)
    have new : ImIs (ab_set h1 (x + 86) (.inl (0, 2, upd (A 2) k 1))) s (im kp k) := ⟨n, a, sg, rs, nn, un, G.all imk, t2.all G imk⟩
    have old : ∀ q s', q ≤ 1 → q ≠ k → ((q = 0 ∧ s' = x + 44) ∨ (q = 1 ∧ s' = x + 65)) → (A 2 q = 0 ∨ (A 2 q = 1 ∧ ImIs h s' (im (A 1) q))) → (upd (A 2) k 1 q = 0 ∨ (upd (A 2) k 1 q = 1 ∧ ImIs (ab_set h1 (x + 86) (.inl (0, 2, upd (A 2) k 1))) s' (im kp q))) := fun q s' h1' h2' h3' h4' => by
      rw [up_ne _ _ h2']
      rcases h4' with z | ⟨z, n', a', sg', rs', nn', un', G', S'⟩
      · exact Or.inl z
      · exact Or.inr ⟨z, n', a', sg', rs', nn', un', G'.all (imo q h1' h2'), ((S'.frm f1 (by omega)).frm f2 (by omega)).all G' (imo q h1' h2')⟩
    have img : ImgOk (ab_set h1 (x + 86) (.inl (0, 2, upd (A 2) k 1))) x kp (upd (A 2) k 1) := by
      refine ⟨by rw [f2.2 _ (by omega), f1.2 _ (by omega)]; exact i1, k2, ?_, ?_, ?_, ?_⟩
      · rcases hs3 with ⟨rfl, rfl⟩ | ⟨rfl, rfl⟩
        · exact t2.shp
        · exact (i3.frm f1 (by omega)).frm f2 (by omega)
      · rcases hs3 with ⟨rfl, rfl⟩ | ⟨rfl, rfl⟩
        · exact (i4.frm f1 (by omega)).frm f2 (by omega)
        · exact t2.shp
      · rcases hs3 with ⟨rfl, rfl⟩ | ⟨rfl, rfl⟩
        · exact Or.inr ⟨up_at _ _ _, new⟩
        · exact old 0 (x + 44) (by omega) (by omega) (Or.inl ⟨rfl, rfl⟩) i5
      · rcases hs3 with ⟨rfl, rfl⟩ | ⟨rfl, rfl⟩
        · exact old 1 (x + 65) (by omega) (by omega) (Or.inr ⟨rfl, rfl⟩) i6
        · exact Or.inr ⟨up_at _ _ _, new⟩
    generalize ab_set h1 (x + 86) (.inl (0, 2, upd (A 2) k 1)) = h2 at f3 eX em e2 img
    refine JI.mk eX em ?_ (JW.end (A := ropU (ropU A 1 kp) 2 (upd (A 2) k 1)) w2 (w3.frm f3 (by omega)) w4 w5 ⟨by rw [f3.2 _ (by omega)]; exact x1, x2.frm f3 (by omega), x3.frm f3 (by omega), img, x5.frm f3 (by omega)⟩ (w7.frm f3 (by omega)) w8)
    rw [q_M_image, m_wn _ 0 1 (by decide) (by decide), cI_some, e, if_neg z10, e2]
theorem j_from (J : JR ro h x m) (i : Int32) : JI ro (fn_X_from x i h) (fun k => fn_M_from m i k) x m := by
  obtain ⟨A, I, u, v, L, n, a, sg, rs, nn, un, W⟩ := J
  have G := W.gd
  have c1 := W.cell
  obtain ⟨w1, w2, w3, w4, w5, ⟨x1, x2, x3, ⟨i1, i2, i3, i4, i5, i6⟩, x5⟩, w7, w8⟩ := id W
  rcases inV_d i 0 1 (by omega) (by omega) with e | ⟨e, k, -, hk, rfl⟩
  · obtain ⟨h1, h2, e1, e2, e3, e4⟩ := j_bad W (-2)
    refine JI.mk (r := -2) ?_ e2 ?_ e4
    · rw [q_X_from, x_wn i 0 1 (by decide) (by decide), cI_some, e, if_pos rfl, xx_c c1, e1, cI_some]
    · rw [q_M_from, m_wn i 0 1 (by decide) (by decide), cI_some, e, if_pos rfl, mc, e3, cI_some]
  · obtain ⟨s, hs1, hs3, hs4⟩ : ∃ s : Nat, ([.ref (x + 44), .ref (x + 65)] : List Value)[k]? = some (.ref s) ∧ (x + 44 ≤ s ∧ s ≤ x + 65) ∧ (A 2 k = 0 ∨ (A 2 k = 1 ∧ ImIs h s (im (A 1) k))) := by
      match k, hk with
      | 0, _ => exact ⟨x + 44, rfl, by omega, i5⟩
      | 1, _ => exact ⟨x + 65, rfl, by omega, i6⟩
      | k + 2, hk => omega
    rcases hs4 with z | ⟨z, n', a', sg', rs', nn', un', G', S'⟩
    · obtain ⟨h1, h2, e1, e2, e3, e4⟩ := j_no W
      refine JI.mk (r := -3) ?_ e2 ?_ e4
      · rw [q_X_from, x_wn _ 0 1 (by decide) (by decide), cI_some, e, if_neg z10, xx_3 c1, iald_at i2 (by omega) (by decide), z, if_pos rfl, xx_c c1, e1, cI_some]
      · rw [q_M_from, m_wn _ 0 1 (by decide) (by decide), cI_some, e, if_neg z10, mr_2, ml_b (by omega), z, if_pos rfl, mc, e3, cI_some]
    · obtain ⟨h1, e1, t1, f1⟩ := sc_copy x2.shp S' G' (by omega)
      obtain ⟨g, e2, r1⟩ := m_frm_loop (h := h1) (m := m) (A := A) (I := I) (u := u) (v := v) hk 94 0 (A 0) (by omega) (fun j hj => absurd hj (Nat.not_lt_zero j))
      rw [ropU_self, nI_0] at e2
      refine JI.mk (r := 1) ?_ (W.mid f1 (by omega)) ?_ (W.now f1 (t1.all G' r1) (G'.all r1) (KQ.refl _ I))
      · rw [q_X_from, x_wn _ 0 1 (by decide) (by decide), cI_some, e, if_neg z10, xx_3 c1, iald_at i2 (by omega) (by decide), z, if_neg z10, xx_0 c1, xx_2 c1, aald_at i1 (by omega) hs1, e1]
      · rw [q_M_from, m_wn _ 0 1 (by decide) (by decide), cI_some, e, if_neg z10, mr_2, ml_b (by omega), z, if_neg z10, e2]
end
end
