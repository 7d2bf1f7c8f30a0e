/-! both objects as they are made; the law (by program, gen/mk7d.py) -/
theorem aast_at {T : Type} {h : ab_H} {a p v : Nat} {fs vs : List Value} (e : ab_get h a = some (.inr (30, fs))) (hp : p < fs.length) (hp2 : p < 2 ^ 31) (hv : ab_get h v = some (.inr (3, vs))) (K : ab_H → Option T) : ab_aast h a (nI p) v K = K (ab_set h a (.inr (30, fs.set p (.ref v)))) := by
  unfold ab_aast
  rw [e]
  simp only
  rw [nI_clamp hp2, if_pos ⟨trivial, nI_pos' hp2, hp⟩, hv]
  simp only
  rw [if_pos trivial]
theorem i_XA {h : ab_H} {x : Nat} (h16 : 16 ≤ x) (e : ab_get h x = some (.inr (10, [.null, .null, .null, .null, .null, .null, .null, .null, .null, .long 0, .long 0, .int 0, .int 0, .int 0]))) (hq : h.1 = x + 1) : ∃ h', fn_X_init x h = pt_X_init_36 x (0 : Int32) h' ∧ ab_get h' x = some (.inr (10, [.ref (x + 1), .ref (x + 22), .ref (x + 43), .null, .null, .null, .null, .null, .null, .long 0, .long 0, .int 0, .int 0, .int 0])) ∧ (∃ W R N U, SceneAt h' (x + 1) (wall0 8 W, 0, R, 0, N, 0, U, 0)) ∧ Shp h' (x + 22) ∧ ab_get h' (x + 43) = some (.inr (30, [.null, .null])) ∧ h'.1 = x + 44 ∧ ∀ k, k < x → ab_get h' k = ab_get h k := by
  obtain ⟨w1, W1, R1, N1, U1, e1, x1, y1, z1⟩ := i_Scene (h := ab_new h (.inr (3, ab_df 3))) (r := x + 1) (by omega) (by rw [← hq]; exact new_same _ _) (by rw [new_fst, hq])
  obtain ⟨h1, a1, b1, c1', u1, v1⟩ := obj_step (k := 0) (F := fn_Scene_init) e hq (by omega) (by omega) (show 0 < 14 by decide) e1 y1 z1
  have c1 : ab_get h1 x = some (.inr (10, [.ref (x + 1), .null, .null, .null, .null, .null, .null, .null, .null, .long 0, .long 0, .int 0, .int 0, .int 0])) := c1'
  clear c1'
  obtain ⟨w2, W2, R2, N2, U2, e2, x2, y2, z2⟩ := i_Scene (h := ab_new h1 (.inr (3, ab_df 3))) (r := x + 22) (by omega) (by rw [show x + 22 = h1.1 by omega]; exact new_same _ _) (by rw [new_fst, b1])
  obtain ⟨h2, a2, b2, c2', u2, v2⟩ := obj_step (k := 1) (F := fn_Scene_init) c1 (show h1.1 = x + 22 by omega) (by omega) (by omega) (show 1 < 14 by decide) e2 y2 z2
  have c2 : ab_get h2 x = some (.inr (10, [.ref (x + 1), .ref (x + 22), .null, .null, .null, .null, .null, .null, .null, .long 0, .long 0, .int 0, .int 0, .int 0])) := c2'
  clear c2'
  have b2' : h2.1 = x + 43 := by omega
  refine ⟨ab_set (ab_new h2 (.inr (30, [.null, .null]))) x (.inr (10, [.ref (x + 1), .ref (x + 22), .ref (x + 43), .null, .null, .null, .null, .null, .null, .long 0, .long 0, .int 0, .int 0, .int 0])), ?_, get_same _ _ _, ⟨W1, R1, N1, U1, x1.eq (fun k k1 k2 => ?_)⟩, ⟨_, x2.eq (fun k k1 k2 => ?_)⟩, ?_, ?_, fun k hk => ?_⟩
  · rw [q_X_init, if_pos h16, a1, a2, if_pos (by decide), show Prod.fst h2 = x + 43 from b2', pf_at ((new_ne h2 _ (by omega)).trans c2) (show 2 < 14 by decide)]
    rfl
  · rw [get_ne _ _ (by omega), new_ne _ _ (by omega), v2 k (by omega) (by omega), u1 k (by omega)]
  · rw [get_ne _ _ (by omega), new_ne _ _ (by omega), u2 k (by omega)]
  · rw [get_ne _ _ (by omega), ← b2', new_same]
  · show h2.1 + 1 = x + 44
    omega
  · rw [get_ne _ _ (by omega), new_ne _ _ (by omega), v2 k (by omega) (by omega), v1 k (by omega) (by omega)]
theorem i_XB {h : ab_H} {x p q : Nat} {f f' : List Value} (h16 : 16 ≤ x) (hp : p < 2) (hq0 : x + 44 ≤ q) (e : ab_get h x = some (.inr (10, [.ref (x + 1), .ref (x + 22), .ref (x + 43), .null, .null, .null, .null, .null, .null, .long 0, .long 0, .int 0, .int 0, .int 0]))) (d : ab_get h (x + 43) = some (.inr (30, f))) (hf : f.length = 2) (hf' : f.set p (.ref q) = f') (hq : h.1 = q) : ∃ h', pt_X_init_36 x (nI p) h = pt_X_init_36 x (nI p + 1) h' ∧ ab_get h' x = some (.inr (10, [.ref (x + 1), .ref (x + 22), .ref (x + 43), .null, .null, .null, .null, .null, .null, .long 0, .long 0, .int 0, .int 0, .int 0])) ∧ ab_get h' (x + 43) = some (.inr (30, f')) ∧ Shp h' q ∧ h'.1 = q + 21 ∧ ∀ k, k ≠ x + 43 → k < q → ab_get h' k = ab_get h k := by
  obtain ⟨w4, W4, R4, N4, U4, e4, x4, y4, z4⟩ := i_Scene (h := ab_new h (.inr (3, ab_df 3))) (r := q) (by omega) (by rw [← hq]; exact new_same _ _) (by rw [new_fst, hq])
  have z4' : ∀ j, j < q → ab_get w4 j = ab_get h j := fun j hj => (z4 j hj).trans (new_ne _ _ (by omega))
  refine ⟨ab_set w4 (x + 43) (.inr (30, f')), ?_, ?_, get_same _ _ _, ⟨_, x4.eq (fun k k1 k2 => get_ne _ _ (by omega))⟩, y4, fun k k1 k2 => ?_⟩
  · have hlt : ¬ (2 : Int32) ≤ nI p := by
      rcases (show p = 0 ∨ p = 1 by omega) with rfl | rfl
      · decide
      · decide
    rw [q_X_init_36, if_neg hlt, gfr_at (k := 2) (x := x + 43) e rfl, show Prod.fst h = q from hq, if_pos (show 16 ≤ q by omega), e4, cV_some, aast_at ((z4' _ (by omega)).trans d) (by omega) (by omega) x4.1, hf']
  · rw [get_ne _ _ (by omega), z4' _ (by omega)]
    exact e
  · rw [get_ne _ _ k1, z4' _ k2]
theorem RopeSh.eq {h h' : ab_H} {r : Nat} (S : RopeSh h r) (e : ∀ k, r ≤ k → k < r + 8 → ab_get h' k = ab_get h k) : RopeSh h' r := by
  obtain ⟨a, Q, R', s1, s2⟩ := S
  exact ⟨a, Q, R', s1.eq e, s2⟩
theorem TxAt.eq {h h' : ab_H} {r L st en : Nat} {b : Nat → Int32} {tk : Int32} (t : TxAt h r L b tk st en) (e : ∀ k, r ≤ k → k < r + 2 → ab_get h' k = ab_get h k) : TxAt h' r L b tk st en := ⟨(e _ (by omega) (by omega)).trans t.1, (e _ (by omega) (by omega)).trans t.2⟩
theorem VoR_eq {h h' : ab_H} {r : Nat} (t : VoAt h r ∧ RopeSh h (r + 1)) (e : ∀ k, r ≤ k → k < r + 9 → ab_get h' k = ab_get h k) : VoAt h' r ∧ RopeSh h' (r + 1) := ⟨(e _ (by omega) (by omega)).trans t.1, t.2.eq (fun k k1 k2 => e k (by omega) (by omega))⟩
theorem GuR_eq {h h' : ab_H} {r : Nat} (t : GuAt h r ∧ RopeSh h (r + 1)) (e : ∀ k, r ≤ k → k < r + 9 → ab_get h' k = ab_get h k) : GuAt h' r ∧ RopeSh h' (r + 1) := ⟨(e _ (by omega) (by omega)).trans t.1, t.2.eq (fun k k1 k2 => e k (by omega) (by omega))⟩
theorem WyR_eq {h h' : ab_H} {r : Nat} (t : (∃ k F S, WyAt h r k F S) ∧ RopeSh h (r + 1)) (e : ∀ k, r ≤ k → k < r + 11 → ab_get h' k = ab_get h k) : (∃ k F S, WyAt h' r k F S) ∧ RopeSh h' (r + 1) := by
  obtain ⟨⟨k, F, S, q1, q2, q3⟩, q4⟩ := t
  exact ⟨⟨k, F, S, (e _ (by omega) (by omega)).trans q1, (e _ (by omega) (by omega)).trans q2, (e _ (by omega) (by omega)).trans q3⟩, q4.eq (fun k k1 k2 => e k (by omega) (by omega))⟩
theorem TyR_eq {h h' : ab_H} {r : Nat} (t : (∃ O B, TyAt h r O B) ∧ RopeSh h (r + 1)) (e : ∀ k, r ≤ k → k < r + 11 → ab_get h' k = ab_get h k) : (∃ O B, TyAt h' r O B) ∧ RopeSh h' (r + 1) := by
  obtain ⟨⟨O, B, q1, q2, q3⟩, q4⟩ := t
  exact ⟨⟨O, B, (e _ (by omega) (by omega)).trans q1, (e _ (by omega) (by omega)).trans q2, (e _ (by omega) (by omega)).trans q3⟩, q4.eq (fun k k1 k2 => e k (by omega) (by omega))⟩
theorem x_Text {h : ab_H} {x : Nat} (h16 : 16 ≤ x) (c : ab_get h x = some (.inr (10, [.ref (x + 1), .ref (x + 22), .ref (x + 43), .ref (x + 86), .null, .null, .null, .null, .null, .long 0, .long 0, .int 0, .int 0, .int 0]))) (b : h.1 = x + 87) : ∃ h', (∀ {T : Type} (K : ab_H → Option T), (if 16 ≤ (Prod.fst h) then (ab_cV (fn_Text_init (Prod.fst h) (ab_new h (.inr (4, ab_df 4)))) fun h1 => (ab_pf h1 x 10 4 (.ref (Prod.fst h)) K)) else none) = K h') ∧ h'.1 = x + 89 ∧ ab_get h' x = some (.inr (10, [.ref (x + 1), .ref (x + 22), .ref (x + 43), .ref (x + 86), .ref (x + 87), .null, .null, .null, .null, .long 0, .long 0, .int 0, .int 0, .int 0])) ∧ TxAt h' (x + 87) 0 (fun _ => 0) 0 0 0 ∧ ∀ j, j ≠ x → j < x + 87 → ab_get h' j = ab_get h j := by
  obtain ⟨w1, e1, x1, y1, z1⟩ := i_Text (h := ab_new h (.inr (4, ab_df 4))) (r := x + 87) (by omega) (by rw [← b]; exact new_same _ _) (by rw [new_fst, b])
  obtain ⟨h1, a1, b1, c1, u1, v1⟩ := obj_step (k := 4) (F := fn_Text_init) c b (by omega) (by omega) (show 4 < 14 by decide) e1 y1 z1
  exact ⟨h1, a1, b1, c1, TxAt.eq x1 (fun k k1 k2 => u1 k (by omega)), v1⟩
theorem x_Voices {h : ab_H} {x : Nat} (h16 : 16 ≤ x) (c : ab_get h x = some (.inr (10, [.ref (x + 1), .ref (x + 22), .ref (x + 43), .ref (x + 86), .ref (x + 87), .null, .null, .null, .null, .long 0, .long 0, .int 0, .int 0, .int 0]))) (b : h.1 = x + 89) : ∃ h', (∀ {T : Type} (K : ab_H → Option T), (if 16 ≤ (Prod.fst h) then (ab_cV (fn_Voices_init (Prod.fst h) (ab_new h (.inr (7, ab_df 7)))) fun h1 => (ab_pf h1 x 10 5 (.ref (Prod.fst h)) K)) else none) = K h') ∧ h'.1 = x + 98 ∧ ab_get h' x = some (.inr (10, [.ref (x + 1), .ref (x + 22), .ref (x + 43), .ref (x + 86), .ref (x + 87), .ref (x + 89), .null, .null, .null, .long 0, .long 0, .int 0, .int 0, .int 0])) ∧ (VoAt h' (x + 89) ∧ RopeSh h' (x + 89 + 1)) ∧ ∀ j, j ≠ x → j < x + 89 → ab_get h' j = ab_get h j := by
  obtain ⟨w1, e1, x1, y1, z1⟩ := i_Voices (h := ab_new h (.inr (7, ab_df 7))) (r := x + 89) (by omega) (by rw [← b]; exact new_same _ _) (by rw [new_fst, b])
  obtain ⟨h1, a1, b1, c1, u1, v1⟩ := obj_step (k := 5) (F := fn_Voices_init) c b (by omega) (by omega) (show 5 < 14 by decide) e1 y1 z1
  exact ⟨h1, a1, b1, c1, VoR_eq x1 (fun k k1 k2 => u1 k (by omega)), v1⟩
theorem x_Ways {h : ab_H} {x : Nat} (h16 : 16 ≤ x) (c : ab_get h x = some (.inr (10, [.ref (x + 1), .ref (x + 22), .ref (x + 43), .ref (x + 86), .ref (x + 87), .ref (x + 89), .null, .null, .null, .long 0, .long 0, .int 0, .int 0, .int 0]))) (b : h.1 = x + 98) : ∃ h', (∀ {T : Type} (K : ab_H → Option T), (if 16 ≤ (Prod.fst h) then (ab_cV (fn_Ways_init (Prod.fst h) (ab_new h (.inr (9, ab_df 9)))) fun h1 => (ab_pf h1 x 10 6 (.ref (Prod.fst h)) K)) else none) = K h') ∧ h'.1 = x + 109 ∧ ab_get h' x = some (.inr (10, [.ref (x + 1), .ref (x + 22), .ref (x + 43), .ref (x + 86), .ref (x + 87), .ref (x + 89), .ref (x + 98), .null, .null, .long 0, .long 0, .int 0, .int 0, .int 0])) ∧ ((∃ k F S, WyAt h' (x + 98) k F S) ∧ RopeSh h' (x + 98 + 1)) ∧ ∀ j, j ≠ x → j < x + 98 → ab_get h' j = ab_get h j := by
  obtain ⟨w1, e1, x1, y1, z1⟩ := i_Ways (h := ab_new h (.inr (9, ab_df 9))) (r := x + 98) (by omega) (by rw [← b]; exact new_same _ _) (by rw [new_fst, b])
  obtain ⟨h1, a1, b1, c1, u1, v1⟩ := obj_step (k := 6) (F := fn_Ways_init) c b (by omega) (by omega) (show 6 < 14 by decide) e1 y1 z1
  exact ⟨h1, a1, b1, c1, WyR_eq x1 (fun k k1 k2 => u1 k (by omega)), v1⟩
theorem x_Tying {h : ab_H} {x : Nat} (h16 : 16 ≤ x) (c : ab_get h x = some (.inr (10, [.ref (x + 1), .ref (x + 22), .ref (x + 43), .ref (x + 86), .ref (x + 87), .ref (x + 89), .ref (x + 98), .null, .null, .long 0, .long 0, .int 0, .int 0, .int 0]))) (b : h.1 = x + 109) : ∃ h', (∀ {T : Type} (K : ab_H → Option T), (if 16 ≤ (Prod.fst h) then (ab_cV (fn_Tying_init (Prod.fst h) (ab_new h (.inr (5, ab_df 5)))) fun h1 => (ab_pf h1 x 10 7 (.ref (Prod.fst h)) K)) else none) = K h') ∧ h'.1 = x + 120 ∧ ab_get h' x = some (.inr (10, [.ref (x + 1), .ref (x + 22), .ref (x + 43), .ref (x + 86), .ref (x + 87), .ref (x + 89), .ref (x + 98), .ref (x + 109), .null, .long 0, .long 0, .int 0, .int 0, .int 0])) ∧ ((∃ O B, TyAt h' (x + 109) O B) ∧ RopeSh h' (x + 109 + 1)) ∧ ∀ j, j ≠ x → j < x + 109 → ab_get h' j = ab_get h j := by
  obtain ⟨w1, e1, x1, y1, z1⟩ := i_Tying (h := ab_new h (.inr (5, ab_df 5))) (r := x + 109) (by omega) (by rw [← b]; exact new_same _ _) (by rw [new_fst, b])
  obtain ⟨h1, a1, b1, c1, u1, v1⟩ := obj_step (k := 7) (F := fn_Tying_init) c b (by omega) (by omega) (show 7 < 14 by decide) e1 y1 z1
  exact ⟨h1, a1, b1, c1, TyR_eq x1 (fun k k1 k2 => u1 k (by omega)), v1⟩
theorem x_Guess {h : ab_H} {x : Nat} (h16 : 16 ≤ x) (c : ab_get h x = some (.inr (10, [.ref (x + 1), .ref (x + 22), .ref (x + 43), .ref (x + 86), .ref (x + 87), .ref (x + 89), .ref (x + 98), .ref (x + 109), .null, .long 0, .long 0, .int 0, .int 0, .int 0]))) (b : h.1 = x + 120) : ∃ h', (∀ {T : Type} (K : ab_H → Option T), (if 16 ≤ (Prod.fst h) then (ab_cV (fn_Guess_init (Prod.fst h) (ab_new h (.inr (0, ab_df 0)))) fun h1 => (ab_pf h1 x 10 8 (.ref (Prod.fst h)) K)) else none) = K h') ∧ h'.1 = x + 129 ∧ ab_get h' x = some (.inr (10, [.ref (x + 1), .ref (x + 22), .ref (x + 43), .ref (x + 86), .ref (x + 87), .ref (x + 89), .ref (x + 98), .ref (x + 109), .ref (x + 120), .long 0, .long 0, .int 0, .int 0, .int 0])) ∧ (GuAt h' (x + 120) ∧ RopeSh h' (x + 120 + 1)) ∧ ∀ j, j ≠ x → j < x + 120 → ab_get h' j = ab_get h j := by
  obtain ⟨w1, e1, x1, y1, z1⟩ := i_Guess (h := ab_new h (.inr (0, ab_df 0))) (r := x + 120) (by omega) (by rw [← b]; exact new_same _ _) (by rw [new_fst, b])
  obtain ⟨h1, a1, b1, c1, u1, v1⟩ := obj_step (k := 8) (F := fn_Guess_init) c b (by omega) (by omega) (show 8 < 14 by decide) e1 y1 z1
  exact ⟨h1, a1, b1, c1, GuR_eq x1 (fun k k1 k2 => u1 k (by omega)), v1⟩
theorem i_XC {h : ab_H} {x : Nat} (h16 : 16 ≤ x) (c5 : ab_get h x = some (.inr (10, [.ref (x + 1), .ref (x + 22), .ref (x + 43), .null, .null, .null, .null, .null, .null, .long 0, .long 0, .int 0, .int 0, .int 0]))) (b5 : h.1 = x + 86) : ∃ h', pt_X_init_36 x (nI 2) h = some (none, h') ∧ ab_get h' x = some (.inr (10, xFs x 0 1 (fun _ => 0))) ∧ ab_get h' (x + 86) = some (.inl (0, 2, fun _ => 0)) ∧ TxAt h' (x + 87) 0 (fun _ => 0) 0 0 0 ∧ QS h' x ∧ h'.1 = x + 129 ∧ ∀ k, k ≠ x → k < x + 86 → ab_get h' k = ab_get h k := by
  obtain ⟨h6, a6, b6, c6', d6, u6'⟩ := arr_step (k := 3) (len := 2) (sort := 0) (L := 2) c5 b5 (by omega) (show 3 < 14 by decide) (by decide) (by decide) (by omega)
  have c6 : ab_get h6 x = some (.inr (10, [.ref (x + 1), .ref (x + 22), .ref (x + 43), .ref (x + 86), .null, .null, .null, .null, .null, .long 0, .long 0, .int 0, .int 0, .int 0])) := c6'
  have u6 : ∀ j, j ≠ x → j < x + 86 → ab_get h6 j = ab_get h j := fun j j1 j2 => u6' j j1 (Nat.ne_of_lt j2)
  clear c6' u6' c5 b5
  obtain ⟨h7, a7, b7, c7, x7, v7⟩ := x_Text h16 c6 b6
  clear b6 c6
  obtain ⟨h8, a8, b8, c8, x8, v8⟩ := x_Voices h16 c7 b7
  clear b7 c7
  obtain ⟨h9, a9, b9, c9, x9, v9⟩ := x_Ways h16 c8 b8
  clear b8 c8
  obtain ⟨h10, a10, b10, c10, x10, v10⟩ := x_Tying h16 c9 b9
  clear b9 c9
  obtain ⟨h11, a11, b11, c11, x11, v11⟩ := x_Guess h16 c10 b10
  clear b10 c10
  have eH : pt_X_init_36 x (nI 2) h = some (none, ab_set h11 x (.inr (10, xFs x 0 1 (fun _ => 0)))) := by
    rw [q_X_init_36, if_pos (by decide), a6, a7, a8, a9, a10, a11, pf_at c11 (show 9 < 14 by decide), pf_at (get_same _ _ _) (show 10 < 14 by decide), set_set]
    rfl
  have o : ∀ j, j ≠ x → ab_get (ab_set h11 x (.inr (10, xFs x 0 1 (fun _ => 0)))) j = ab_get h11 j := fun j hj => get_ne _ _ hj
  have bo : (ab_set h11 x (.inr (10, xFs x 0 1 (fun _ => 0)))).1 = x + 129 := b11
  have co : ab_get (ab_set h11 x (.inr (10, xFs x 0 1 (fun _ => 0)))) x = some (.inr (10, xFs x 0 1 (fun _ => 0))) := get_same _ _ _
  clear a6 a7 a8 a9 a10 a11 b11 c11
  generalize ab_set h11 x (.inr (10, xFs x 0 1 (fun _ => 0))) = H at eH o bo co
  have t10 : ∀ j, j ≠ x → j < x + 120 → ab_get H j = ab_get h10 j := fun j j1 j2 => (o j j1).trans (v11 j j1 j2)
  have t9 : ∀ j, j ≠ x → j < x + 109 → ab_get H j = ab_get h9 j := fun j j1 j2 => (t10 j j1 (Nat.lt_of_lt_of_le j2 (Nat.add_le_add_left (by decide) x))).trans (v10 j j1 j2)
  have t8 : ∀ j, j ≠ x → j < x + 98 → ab_get H j = ab_get h8 j := fun j j1 j2 => (t9 j j1 (Nat.lt_of_lt_of_le j2 (Nat.add_le_add_left (by decide) x))).trans (v9 j j1 j2)
  have t7 : ∀ j, j ≠ x → j < x + 89 → ab_get H j = ab_get h7 j := fun j j1 j2 => (t8 j j1 (Nat.lt_of_lt_of_le j2 (Nat.add_le_add_left (by decide) x))).trans (v8 j j1 j2)
  have t6 : ∀ j, j ≠ x → j < x + 87 → ab_get H j = ab_get h6 j := fun j j1 j2 => (t7 j j1 (Nat.lt_of_lt_of_le j2 (Nat.add_le_add_left (by decide) x))).trans (v7 j j1 j2)
  have t5 : ∀ j, j ≠ x → j < x + 86 → ab_get H j = ab_get h j := fun j j1 j2 => (t6 j j1 (Nat.lt_of_lt_of_le j2 (Nat.add_le_add_left (by decide) x))).trans (u6 j j1 j2)
  have X8 := VoR_eq x8 (fun j j1 j2 => t8 j (Nat.ne_of_gt (Nat.lt_of_lt_of_le (Nat.lt_add_of_pos_right (by decide)) j1)) j2)
  have X9 := WyR_eq x9 (fun j j1 j2 => t9 j (Nat.ne_of_gt (Nat.lt_of_lt_of_le (Nat.lt_add_of_pos_right (by decide)) j1)) j2)
  have X10 := TyR_eq x10 (fun j j1 j2 => t10 j (Nat.ne_of_gt (Nat.lt_of_lt_of_le (Nat.lt_add_of_pos_right (by decide)) j1)) j2)
  have X11 := GuR_eq x11 (fun j j1 j2 => o j (Nat.ne_of_gt (Nat.lt_of_lt_of_le (Nat.lt_add_of_pos_right (by decide)) j1)))
  exact ⟨H, eH, co, (t6 _ (Nat.ne_of_gt (Nat.lt_add_of_pos_right (by decide))) (Nat.lt_succ_self _)).trans d6, TxAt.eq x7 (fun j j1 j2 => t7 j (Nat.ne_of_gt (Nat.lt_of_lt_of_le (Nat.lt_add_of_pos_right (by decide)) j1)) j2), ⟨X8.1, X8.2, X9.1, X9.2, X10.1, X10.2, X11.1, X11.2⟩, bo, t5⟩
theorem i_X {h : ab_H} {x : Nat} (h16 : 16 ≤ x) (e : ab_get h x = some (.inr (10, ab_df 10))) (hq : h.1 = x + 1) : ∃ h', fn_X_init x h = some (none, h') ∧ ab_get h' x = some (.inr (10, xFs x 0 1 (fun _ => 0))) ∧ (∃ W R N U, SceneAt h' (x + 1) (wall0 8 W, 0, R, 0, N, 0, U, 0)) ∧ Shp h' (x + 22) ∧ ab_get h' (x + 43) = some (.inr (30, [.ref (x + 44), .ref (x + 65)])) ∧ ab_get h' (x + 86) = some (.inl (0, 2, fun _ => 0)) ∧ Shp h' (x + 44) ∧ Shp h' (x + 65) ∧ TxAt h' (x + 87) 0 (fun _ => 0) 0 0 0 ∧ QS h' x ∧ h'.1 = x + 129 ∧ ∀ k, k < x → ab_get h' k = ab_get h k := by
  obtain ⟨h1, a1, c1, ⟨W, R, N, U, s1⟩, ⟨t1, s1'⟩, d1, b1, v1⟩ := i_XA h16 e hq
  obtain ⟨h2, a2, c2, d2, ⟨t2, s2⟩, b2, v2⟩ := i_XB (p := 0) (q := x + 44) (f' := [.ref (x + 44), .null]) h16 (by omega) (by omega) c1 d1 rfl rfl b1
  obtain ⟨h3, a3, c3, d3, ⟨t3, s3⟩, b3, v3⟩ := i_XB (p := 1) (q := x + 65) (f' := [.ref (x + 44), .ref (x + 65)]) h16 (by omega) (by omega) c2 d2 rfl rfl (by omega)
  obtain ⟨H, a4, c4, d4, tx, qs, b4, v4⟩ := i_XC h16 c3 (by omega)
  have f3 : ∀ k, k ≠ x → k ≠ x + 43 → k < x + 65 → ab_get H k = ab_get h2 k := fun k k1 k2 k3 => (v4 k k1 (by omega)).trans (v3 k k2 k3)
  have f2 : ∀ k, k ≠ x → k ≠ x + 43 → k < x + 44 → ab_get H k = ab_get h1 k := fun k k1 k2 k3 => (f3 k k1 k2 (by omega)).trans (v2 k k2 k3)
  refine ⟨H, ?_, c4, ⟨W, R, N, U, s1.eq (fun k k1 k2 => f2 k (by omega) (by omega) (by omega))⟩, ⟨t1, s1'.eq (fun k k1 k2 => f2 k (by omega) (by omega) (by omega))⟩, (v4 _ (by omega) (by omega)).trans d3, d4, ⟨t2, s2.eq (fun k k1 k2 => f3 k (by omega) (by omega) (by omega))⟩, ⟨t3, s3.eq (fun k k1 k2 => v4 k (by omega) (by omega))⟩, tx, qs, b4, fun k hk => (f2 k (by omega) (by omega) (by omega)).trans (v1 k hk)⟩
  rw [a1, show (0 : Int32) = nI 0 from nI_0.symm, a2, show nI 0 + 1 = nI 1 by decide, a3, show nI 1 + 1 = nI 2 by decide, a4]
