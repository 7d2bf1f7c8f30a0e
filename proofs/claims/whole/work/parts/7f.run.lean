/-! the law, run (by program, gen/mk7d.py) -/
theorem law_run0 (n : Nat) (xs : Nat → Int32) (hn : n ≤ 320) : ∃ h', ab_F cdT mxT law_ix [.ref 0] (16, fun k => ab_ro n xs k) = some (some (.int 1), h') ∧ h'.1 ≤ 3000 := by
  obtain ⟨h1, e1, x1, ⟨W, R, N, U, x2⟩, x3, x4, x5, x6, x7, x8, x9, x10, x11⟩ := i_X (h := ab_new (16, fun k => ab_ro n xs k) (.inr (10, ab_df 10))) (x := 16) (by omega) (new_same _ _) rfl
  obtain ⟨h2, g, e2, m1, B, m2, m3⟩ := i_M (h := ab_new h1 (.inr (11, ab_df 11))) (m := 145) (by omega) (by rw [show 145 = h1.1 by omega]; exact new_same _ _) (by rw [new_fst, x10])
  have st : ∀ k, k < 145 → ab_get h2 k = ab_get h1 k := fun k hk => (m3 k hk).trans (new_ne _ _ (by omega))
  have fr : Frm h1 (h1.1, h2.2) 145 14 → True := fun _ => trivial
  have hro : ∀ k, k < 16 → ab_get h2 k = ab_ro n xs k := fun k hk => by
    rw [st k (by omega), x11 k (by omega), new_ne _ _ (by show k ≠ 16; omega)]
    rfl
  have sce : ∀ s c, SceneAt h1 s c → s + 21 ≤ 145 → SceneAt h2 s c := fun s c S hs => S.eq (fun k k1 k2 => st k (by omega))
  have rsh : ∀ r, RopeSh h1 r → r + 8 ≤ 145 → RopeSh h2 r := fun r S hs => by
    obtain ⟨a, Q, R', s1, s2⟩ := S
    exact ⟨a, Q, R', s1.eq (fun k k1 k2 => st k (by omega)), s2⟩
  have shp : ∀ s, Shp h1 s → s + 21 ≤ 145 → Shp h2 s := fun s S hs => by
    obtain ⟨c, s1⟩ := S
    exact ⟨c, sce s c s1 hs⟩
  have J : JR (fun k => ab_ro n xs k) h2 16 145 := by
    refine ⟨ropU (fun _ _ => 0) 0 g, fun _ => 0, 0, 1, 0, 0, 0, 0, 0, 0, 0, m1, by omega, ⟨by omega, by omega, hro⟩, rfl, by omega, ⟨(st _ (by omega)).trans x1, ⟨_, _, _, _, sce _ _ x2 (by omega), B.weq _, fun j hj i hi => absurd hi (Nat.not_lt_zero i), fun j hj i hi => absurd hi (Nat.not_lt_zero i), fun j hj i hi => absurd hi (Nat.not_lt_zero i)⟩, shp _ x3 (by omega), ⟨(st _ (by omega)).trans x4, (st _ (by omega)).trans x5, shp _ x6 (by omega), shp _ x7 (by omega), Or.inl rfl, Or.inl rfl⟩, ⟨0, 0, 0, (st _ (by omega)).trans x8.1, (st _ (by omega)).trans x8.2⟩⟩, ?_, B.gd⟩
    obtain ⟨q1, q2, ⟨k9, F9, S9, q3, q3', q3''⟩, q4, ⟨O, B', q5, q5', q5''⟩, q6, q7, q8⟩ := x9
    exact ⟨(st _ (by omega)).trans q1, rsh _ q2 (by omega), ⟨k9, F9, S9, (st _ (by omega)).trans q3, (st _ (by omega)).trans q3', (st _ (by omega)).trans q3''⟩, rsh _ q4 (by omega), ⟨O, B', (st _ (by omega)).trans q5, (st _ (by omega)).trans q5', (st _ (by omega)).trans q5''⟩, rsh _ q6 (by omega), (st _ (by omega)).trans q7, rsh _ q8 (by omega)⟩
  have R0 : RoW (fun k => ab_ro n xs k) := fun k h1 h2 => by
    show ab_ro n xs k = ab_ro 0 (fun _ => 0) k
    unfold ab_ro
    rw [if_neg (show ¬ k = 0 by omega), if_neg (show ¬ k = 0 by omega)]
  have L := law_loop R0 (x := 16) (m := 145) (N := n) (xs := xs) rfl hn 64 0 h2 (by omega) (by omega) J
  rw [nI_0] at L
  show Res (fn_Law_law 0 (16, fun k => ab_ro n xs k))
  rw [q_Law_law, if_pos (show 16 ≤ 16 by omega)]
  show Res (ab_cV (fn_X_init 16 (ab_new (16, fun k => ab_ro n xs k) (.inr (10, ab_df 10)))) fun h1 => (if 16 ≤ (Prod.fst h1) then (ab_cV (fn_M_init (Prod.fst h1) (ab_new h1 (.inr (11, ab_df 11)))) fun h2 => pt_Law_law_18 0 16 (Prod.fst h1) (0 : Int32) h2) else none))
  rw [e1, cV_some, show Prod.fst h1 = 145 from x10, if_pos (show 16 ≤ 145 by omega), e2, cV_some]
  exact L
