/-! the objects as they are made (by program, gen/mk7c.py) -/
theorem new_same (h : ab_H) (c : ab_Ce) : ab_get (ab_new h c) h.1 = some c := by simp [ab_get, ab_new]
theorem new_ne (h : ab_H) {b : Nat} (c : ab_Ce) (n : b ≠ h.1) : ab_get (ab_new h c) b = ab_get h b := by simp [ab_get, ab_new, n]
theorem new_fst (h : ab_H) (c : ab_Ce) : (ab_new h c).1 = h.1 + 1 := rfl
/-- a row made, and put into a field -/
theorem arr_step {h : ab_H} {r c k len sort q : Nat} {fs : List Value} (e : ab_get h r = some (.inr (c, fs))) (hq : h.1 = q) (hr : r < q) (hk : k < fs.length) {L : Int32} (hl : 0 ≤ L) (hn : L.toNatClampNeg = len) (h2 : len ≤ 200) : ∃ h1, (∀ {T : Type} (K : ab_H → Option T), (if 0 ≤ L ∧ L.toNatClampNeg ≤ 200 then (ab_pf (ab_new h (.inl (sort, L.toNatClampNeg, fun _ => 0))) r c k (.ref (Prod.fst h)) K) else none) = K h1) ∧ h1.1 = q + 1 ∧ ab_get h1 r = some (.inr (c, fs.set k (.ref q))) ∧ ab_get h1 q = some (.inl (sort, len, fun _ => 0)) ∧ ∀ j, j ≠ r → j ≠ q → ab_get h1 j = ab_get h j := by
  subst hq
  subst hn
  refine ⟨ab_set (ab_new h (.inl (sort, L.toNatClampNeg, fun _ => 0))) r (.inr (c, fs.set k (.ref h.1))), fun K => ?_, ?_, get_same _ _ _, ?_, fun j h1 h2 => ?_⟩
  · rw [if_pos ⟨hl, h2⟩, pf_at ((new_ne h _ (by omega)).trans e) hk]
  · rfl
  · rw [get_ne _ _ (by omega), new_same]
  · rw [get_ne _ _ h1, new_ne _ _ h2]

theorem i_Wall {h : ab_H} {r : Nat} (h16 : 16 ≤ r) (e : ab_get h r = some (.inr (8, ab_df 8))) (hq : h.1 = r + 1) : ∃ h', fn_Wall_init r h = some (none, h') ∧ WallAt h' r (fun _ _ => 0) ∧ h'.1 = r + 5 ∧ ∀ k, k < r → ab_get h' k = ab_get h k := by
  obtain ⟨h1, a1, b1, c1, d1, u1⟩ := arr_step (k := 0) (len := 8) (sort := 0) (L := 8) e hq (by omega) (by first | decide | (simp only [List.length_set]; decide)) (by decide) (by decide) (by omega)
  obtain ⟨h2, a2, b2, c2, d2, u2⟩ := arr_step (k := 1) (len := 8) (sort := 0) (L := 8) c1 b1 (by omega) (by first | decide | (simp only [List.length_set]; decide)) (by decide) (by decide) (by omega)
  obtain ⟨h3, a3, b3, c3, d3, u3⟩ := arr_step (k := 2) (len := 8) (sort := 0) (L := 8) c2 b2 (by omega) (by first | decide | (simp only [List.length_set]; decide)) (by decide) (by decide) (by omega)
  obtain ⟨h4, a4, b4, c4, d4, u4⟩ := arr_step (k := 3) (len := 8) (sort := 0) (L := 8) c3 b3 (by omega) (by first | decide | (simp only [List.length_set]; decide)) (by decide) (by decide) (by omega)
  refine ⟨h4, ?_, ⟨c4, (by rw [u4 _ (by omega) (by omega), u3 _ (by omega) (by omega), u2 _ (by omega) (by omega)]; exact d1), (by rw [u4 _ (by omega) (by omega), u3 _ (by omega) (by omega)]; exact d2), (by rw [u4 _ (by omega) (by omega)]; exact d3), d4⟩, b4, fun k hk => ?_⟩
  · rw [q_Wall_init, if_pos h16, a1, a2, a3, a4]
  · rw [u4 k (by omega) (by omega), u3 k (by omega) (by omega), u2 k (by omega) (by omega), u1 k (by omega) (by omega)]
theorem i_Rope {h : ab_H} {r : Nat} (h16 : 16 ≤ r) (e : ab_get h r = some (.inr (2, ab_df 2))) (hq : h.1 = r + 1) : ∃ h', fn_Rope_init r h = some (none, h') ∧ RopeAt h' r 0 (fun _ _ => 0) ∧ h'.1 = r + 8 ∧ ∀ k, k < r → ab_get h' k = ab_get h k := by
  obtain ⟨h1, a1, b1, c1, d1, u1⟩ := arr_step (k := 1) (len := 5) (sort := 0) (L := 5) e hq (by omega) (by first | decide | (simp only [List.length_set]; decide)) (by decide) (by decide) (by omega)
  obtain ⟨h2, a2, b2, c2, d2, u2⟩ := arr_step (k := 2) (len := 5) (sort := 0) (L := 5) c1 b1 (by omega) (by first | decide | (simp only [List.length_set]; decide)) (by decide) (by decide) (by omega)
  obtain ⟨h3, a3, b3, c3, d3, u3⟩ := arr_step (k := 3) (len := 5) (sort := 0) (L := 5) c2 b2 (by omega) (by first | decide | (simp only [List.length_set]; decide)) (by decide) (by decide) (by omega)
  obtain ⟨h4, a4, b4, c4, d4, u4⟩ := arr_step (k := 4) (len := 5) (sort := 0) (L := 5) c3 b3 (by omega) (by first | decide | (simp only [List.length_set]; decide)) (by decide) (by decide) (by omega)
  obtain ⟨h5, a5, b5, c5, d5, u5⟩ := arr_step (k := 5) (len := 5) (sort := 0) (L := 5) c4 b4 (by omega) (by first | decide | (simp only [List.length_set]; decide)) (by decide) (by decide) (by omega)
  obtain ⟨h6, a6, b6, c6, d6, u6⟩ := arr_step (k := 6) (len := 5) (sort := 0) (L := 5) c5 b5 (by omega) (by first | decide | (simp only [List.length_set]; decide)) (by decide) (by decide) (by omega)
  obtain ⟨h7, a7, b7, c7, d7, u7⟩ := arr_step (k := 7) (len := 5) (sort := 0) (L := 5) c6 b6 (by omega) (by first | decide | (simp only [List.length_set]; decide)) (by decide) (by decide) (by omega)
  refine ⟨h7, ?_, ⟨c7, (by rw [u7 _ (by omega) (by omega), u6 _ (by omega) (by omega), u5 _ (by omega) (by omega), u4 _ (by omega) (by omega), u3 _ (by omega) (by omega), u2 _ (by omega) (by omega)]; exact d1), (by rw [u7 _ (by omega) (by omega), u6 _ (by omega) (by omega), u5 _ (by omega) (by omega), u4 _ (by omega) (by omega), u3 _ (by omega) (by omega)]; exact d2), (by rw [u7 _ (by omega) (by omega), u6 _ (by omega) (by omega), u5 _ (by omega) (by omega), u4 _ (by omega) (by omega)]; exact d3), (by rw [u7 _ (by omega) (by omega), u6 _ (by omega) (by omega), u5 _ (by omega) (by omega)]; exact d4), (by rw [u7 _ (by omega) (by omega), u6 _ (by omega) (by omega)]; exact d5), (by rw [u7 _ (by omega) (by omega)]; exact d6), d7⟩, b7, fun k hk => ?_⟩
  · rw [q_Rope_init, if_pos h16, a1, a2, a3, a4, a5, a6, a7]
  · rw [u7 k (by omega) (by omega), u6 k (by omega) (by omega), u5 k (by omega) (by omega), u4 k (by omega) (by omega), u3 k (by omega) (by omega), u2 k (by omega) (by omega), u1 k (by omega) (by omega)]
theorem i_Notes {h : ab_H} {r : Nat} (h16 : 16 ≤ r) (e : ab_get h r = some (.inr (1, ab_df 1))) (hq : h.1 = r + 1) : ∃ h', fn_Notes_init r h = some (none, h') ∧ NotesAt h' r 0 (fun _ _ => 0) ∧ h'.1 = r + 3 ∧ ∀ k, k < r → ab_get h' k = ab_get h k := by
  obtain ⟨h1, a1, b1, c1, d1, u1⟩ := arr_step (k := 1) (len := 6) (sort := 0) (L := 6) e hq (by omega) (by first | decide | (simp only [List.length_set]; decide)) (by decide) (by decide) (by omega)
  obtain ⟨h2, a2, b2, c2, d2, u2⟩ := arr_step (k := 2) (len := 6) (sort := 0) (L := 6) c1 b1 (by omega) (by first | decide | (simp only [List.length_set]; decide)) (by decide) (by decide) (by omega)
  refine ⟨h2, ?_, ⟨c2, (by rw [u2 _ (by omega) (by omega)]; exact d1), d2⟩, b2, fun k hk => ?_⟩
  · rw [q_Notes_init, if_pos h16, a1, a2]
  · rw [u2 k (by omega) (by omega), u1 k (by omega) (by omega)]
theorem i_Undos {h : ab_H} {r : Nat} (h16 : 16 ≤ r) (e : ab_get h r = some (.inr (6, ab_df 6))) (hq : h.1 = r + 1) : ∃ h', fn_Undos_init r h = some (none, h') ∧ UndosAt h' r 0 (fun _ _ => 0) ∧ h'.1 = r + 4 ∧ ∀ k, k < r → ab_get h' k = ab_get h k := by
  obtain ⟨h1, a1, b1, c1, d1, u1⟩ := arr_step (k := 1) (len := 8) (sort := 0) (L := 8) e hq (by omega) (by first | decide | (simp only [List.length_set]; decide)) (by decide) (by decide) (by omega)
  obtain ⟨h2, a2, b2, c2, d2, u2⟩ := arr_step (k := 2) (len := 8) (sort := 0) (L := 8) c1 b1 (by omega) (by first | decide | (simp only [List.length_set]; decide)) (by decide) (by decide) (by omega)
  obtain ⟨h3, a3, b3, c3, d3, u3⟩ := arr_step (k := 3) (len := 8) (sort := 0) (L := 8) c2 b2 (by omega) (by first | decide | (simp only [List.length_set]; decide)) (by decide) (by decide) (by omega)
  refine ⟨h3, ?_, ⟨c3, (by rw [u3 _ (by omega) (by omega), u2 _ (by omega) (by omega)]; exact d1), (by rw [u3 _ (by omega) (by omega)]; exact d2), d3⟩, b3, fun k hk => ?_⟩
  · rw [q_Undos_init, if_pos h16, a1, a2, a3]
  · rw [u3 k (by omega) (by omega), u2 k (by omega) (by omega), u1 k (by omega) (by omega)]
theorem i_Text {h : ab_H} {r : Nat} (h16 : 16 ≤ r) (e : ab_get h r = some (.inr (4, ab_df 4))) (hq : h.1 = r + 1) : ∃ h', fn_Text_init r h = some (none, h') ∧ TxAt h' r 0 (fun _ => 0) 0 0 0 ∧ h'.1 = r + 2 ∧ ∀ k, k < r → ab_get h' k = ab_get h k := by
  obtain ⟨h1, a1, b1, c1, d1, u1⟩ := arr_step (k := 1) (len := 150) (sort := 1) (L := 150) e hq (by omega) (by first | decide | (simp only [List.length_set]; decide)) (by decide) (by decide) (by omega)
  refine ⟨h1, ?_, ⟨c1, d1⟩, b1, fun k hk => ?_⟩
  · rw [q_Text_init, if_pos h16, a1]
  · rw [u1 k (by omega) (by omega)]
/-- an object made and put into a field -/
theorem obj_step {h h1 : ab_H} {r c k q e1 : Nat} {fs : List Value} {F : Nat → ab_H → Option ab_R} {d : ab_Ce} (e : ab_get h r = some (.inr (c, fs))) (hq : h.1 = q) (h16 : 16 ≤ q) (hr : r < q) (hk : k < fs.length) (hF : F q (ab_new h d) = some (none, h1)) (he : h1.1 = e1) (hu : ∀ j, j < q → ab_get h1 j = ab_get (ab_new h d) j) : ∃ h2, (∀ {T : Type} (K : ab_H → Option T), (if 16 ≤ (Prod.fst h) then (ab_cV (F (Prod.fst h) (ab_new h d)) fun h1 => (ab_pf h1 r c k (.ref (Prod.fst h)) K)) else none) = K h2) ∧ h2.1 = e1 ∧ ab_get h2 r = some (.inr (c, fs.set k (.ref q))) ∧ (∀ j, j ≠ r → ab_get h2 j = ab_get h1 j) ∧ (∀ j, j ≠ r → j < q → ab_get h2 j = ab_get h j) := by
  subst hq
  have e1 : ab_get h1 r = some (.inr (c, fs)) := by rw [hu r hr, new_ne _ _ (by omega)]; exact e
  refine ⟨ab_set h1 r (.inr (c, fs.set k (.ref h.1))), fun K => ?_, ?_, get_same _ _ _, fun j hj => get_ne _ _ hj, fun j hj hlt => ?_⟩
  · rw [if_pos h16, hF, cV_some, pf_at e1 hk]
  · exact he
  · rw [get_ne _ _ hj, hu j hlt, new_ne _ _ (by omega)]
theorem WallAt.eq {h h' : ab_H} {w : Nat} {W : Nat → Nat → Int32} (hw : WallAt h w W) (e : ∀ k, w ≤ k → k < w + 5 → ab_get h' k = ab_get h k) : WallAt h' w W := ⟨(e _ (by omega) (by omega)).trans hw.1, (e _ (by omega) (by omega)).trans hw.2.1, (e _ (by omega) (by omega)).trans hw.2.2.1, (e _ (by omega) (by omega)).trans hw.2.2.2.1, (e _ (by omega) (by omega)).trans hw.2.2.2.2⟩
theorem RopeAt.eq {h h' : ab_H} {r n : Nat} {R : Nat → Nat → Int32} (hr : RopeAt h r n R) (e : ∀ k, r ≤ k → k < r + 8 → ab_get h' k = ab_get h k) : RopeAt h' r n R := ⟨(e _ (by omega) (by omega)).trans hr.1, (e _ (by omega) (by omega)).trans hr.2.1, (e _ (by omega) (by omega)).trans hr.2.2.1, (e _ (by omega) (by omega)).trans hr.2.2.2.1, (e _ (by omega) (by omega)).trans hr.2.2.2.2.1, (e _ (by omega) (by omega)).trans hr.2.2.2.2.2.1, (e _ (by omega) (by omega)).trans hr.2.2.2.2.2.2.1, (e _ (by omega) (by omega)).trans hr.2.2.2.2.2.2.2⟩
theorem NotesAt.eq {h h' : ab_H} {t n : Nat} {N : Nat → Nat → Int32} (hn : NotesAt h t n N) (e : ∀ k, t ≤ k → k < t + 3 → ab_get h' k = ab_get h k) : NotesAt h' t n N := ⟨(e _ (by omega) (by omega)).trans hn.1, (e _ (by omega) (by omega)).trans hn.2.1, (e _ (by omega) (by omega)).trans hn.2.2⟩
theorem UndosAt.eq {h h' : ab_H} {t n : Nat} {N : Nat → Nat → Int32} (hn : UndosAt h t n N) (e : ∀ k, t ≤ k → k < t + 4 → ab_get h' k = ab_get h k) : UndosAt h' t n N := ⟨(e _ (by omega) (by omega)).trans hn.1, (e _ (by omega) (by omega)).trans hn.2.1, (e _ (by omega) (by omega)).trans hn.2.2.1, (e _ (by omega) (by omega)).trans hn.2.2.2⟩
theorem SceneAt.eq {h h' : ab_H} {s : Nat} {c : Sc} (hs : SceneAt h s c) (e : ∀ k, s ≤ k → k < s + 21 → ab_get h' k = ab_get h k) : SceneAt h' s c := ⟨(e _ (by omega) (by omega)).trans hs.1, hs.2.1.eq (fun k h1 h2 => e k (by omega) (by omega)), hs.2.2.1.eq (fun k h1 h2 => e k (by omega) (by omega)), hs.2.2.2.1.eq (fun k h1 h2 => e k (by omega) (by omega)), hs.2.2.2.2.eq (fun k h1 h2 => e k (by omega) (by omega))⟩
theorem i_Scene {h : ab_H} {r : Nat} (h16 : 16 ≤ r) (e : ab_get h r = some (.inr (3, ab_df 3))) (hq : h.1 = r + 1) : ∃ h' W R N U, fn_Scene_init r h = some (none, h') ∧ SceneAt h' r (wall0 8 W, 0, R, 0, N, 0, U, 0) ∧ h'.1 = r + 21 ∧ ∀ k, k < r → ab_get h' k = ab_get h k := by
  obtain ⟨w1, e1, x1, y1, z1⟩ := i_Wall (h := ab_new h (.inr (8, ab_df 8))) (r := r + 1) (by omega) (by rw [← hq]; exact new_same _ _) (by rw [new_fst, hq])
  obtain ⟨h1, a1, b1, c1, u1, v1⟩ := obj_step (k := 0) (F := fn_Wall_init) e hq (by omega) (by omega) (by first | decide | (simp only [List.length_set]; decide)) e1 y1 z1
  obtain ⟨w2, e2, x2, y2, z2⟩ := i_Rope (h := ab_new h1 (.inr (2, ab_df 2))) (r := r + 6) (by omega) (by rw [show r + 6 = h1.1 by omega]; exact new_same _ _) (by rw [new_fst, b1])
  obtain ⟨h2, a2, b2, c2, u2, v2⟩ := obj_step (k := 1) (F := fn_Rope_init) c1 (show h1.1 = r + 6 by omega) (by omega) (by omega) (by first | decide | (simp only [List.length_set]; decide)) e2 y2 z2
  obtain ⟨w3, e3, x3, y3, z3⟩ := i_Notes (h := ab_new h2 (.inr (1, ab_df 1))) (r := r + 14) (by omega) (by rw [show r + 14 = h2.1 by omega]; exact new_same _ _) (by rw [new_fst, b2])
  obtain ⟨h3, a3, b3, c3, u3, v3⟩ := obj_step (k := 2) (F := fn_Notes_init) c2 (show h2.1 = r + 14 by omega) (by omega) (by omega) (by first | decide | (simp only [List.length_set]; decide)) e3 y3 z3
  obtain ⟨w4, e4, x4, y4, z4⟩ := i_Undos (h := ab_new h3 (.inr (6, ab_df 6))) (r := r + 17) (by omega) (by rw [show r + 17 = h3.1 by omega]; exact new_same _ _) (by rw [new_fst, b3])
  obtain ⟨h4, a4, b4, c4, u4, v4⟩ := obj_step (k := 3) (F := fn_Undos_init) c3 (show h3.1 = r + 17 by omega) (by omega) (by omega) (by first | decide | (simp only [List.length_set]; decide)) e4 y4 z4
  have S : SceneAt h4 r (fun _ _ => 0, 0, fun _ _ => 0, 0, fun _ _ => 0, 0, fun _ _ => 0, 0) := by
    refine ⟨c4, x1.eq (fun k k1 k2 => ?_), x2.eq (fun k k1 k2 => ?_), x3.eq (fun k k1 k2 => ?_), x4.eq (fun k k1 k2 => ?_)⟩
    · rw [v4 k (by omega) (by omega), v3 k (by omega) (by omega), v2 k (by omega) (by omega), u1 k (by omega)]
    · rw [v4 k (by omega) (by omega), v3 k (by omega) (by omega), u2 k (by omega)]
    · rw [v4 k (by omega) (by omega), u3 k (by omega)]
    · rw [u4 k (by omega)]
  obtain ⟨h5, e5, x5, f5⟩ := s_wreset S.2.1
  refine ⟨h5, _, _, _, _, ?_, sc_uW S f5 x5, by rw [f5.1]; omega, fun k hk => ?_⟩
  · rw [q_Scene_init, if_pos h16, a1, a2, a3, a4, sc_w S, wl_c S.2.1, e5, cV_some]
  · rw [f5.2 k (by omega), v4 k (by omega) (by omega), v3 k (by omega) (by omega), v2 k (by omega) (by omega), v1 k (by omega) (by omega)]
theorem i_Voices {h : ab_H} {r : Nat} (h16 : 16 ≤ r) (e : ab_get h r = some (.inr (7, ab_df 7))) (hq : h.1 = r + 1) : ∃ h', fn_Voices_init r h = some (none, h') ∧ (VoAt h' r ∧ RopeSh h' (r + 1)) ∧ h'.1 = r + 9 ∧ ∀ k, k < r → ab_get h' k = ab_get h k := by
  obtain ⟨w1, e1, x1, y1, z1⟩ := i_Rope (h := ab_new h (.inr (2, ab_df 2))) (r := r + 1) (by omega) (by rw [← hq]; exact new_same _ _) (by rw [new_fst, hq])
  obtain ⟨h1, a1, b1, c1, u1, v1⟩ := obj_step (k := 0) (F := fn_Rope_init) e hq (by omega) (by omega) (by first | decide | (simp only [List.length_set]; decide)) e1 y1 z1
  refine ⟨h1, ?_, ⟨c1, 0, _, _, x1.eq (fun k k1 k2 => u1 k (by omega)), fun _ _ _ _ => rfl⟩, by omega, fun k hk => v1 k (by omega) (by omega)⟩
  rw [q_Voices_init, if_pos h16, a1]
theorem i_Guess {h : ab_H} {r : Nat} (h16 : 16 ≤ r) (e : ab_get h r = some (.inr (0, ab_df 0))) (hq : h.1 = r + 1) : ∃ h', fn_Guess_init r h = some (none, h') ∧ (GuAt h' r ∧ RopeSh h' (r + 1)) ∧ h'.1 = r + 9 ∧ ∀ k, k < r → ab_get h' k = ab_get h k := by
  obtain ⟨w1, e1, x1, y1, z1⟩ := i_Rope (h := ab_new h (.inr (2, ab_df 2))) (r := r + 1) (by omega) (by rw [← hq]; exact new_same _ _) (by rw [new_fst, hq])
  obtain ⟨h1, a1, b1, c1, u1, v1⟩ := obj_step (k := 0) (F := fn_Rope_init) e hq (by omega) (by omega) (by first | decide | (simp only [List.length_set]; decide)) e1 y1 z1
  refine ⟨h1, ?_, ⟨c1, 0, _, _, x1.eq (fun k k1 k2 => u1 k (by omega)), fun _ _ _ _ => rfl⟩, by omega, fun k hk => v1 k (by omega) (by omega)⟩
  rw [q_Guess_init, if_pos h16, a1]
theorem i_Ways {h : ab_H} {r : Nat} (h16 : 16 ≤ r) (e : ab_get h r = some (.inr (9, ab_df 9))) (hq : h.1 = r + 1) : ∃ h', fn_Ways_init r h = some (none, h') ∧ ((∃ k F S, WyAt h' r k F S) ∧ RopeSh h' (r + 1)) ∧ h'.1 = r + 11 ∧ ∀ k, k < r → ab_get h' k = ab_get h k := by
  obtain ⟨w1, e1, x1, y1, z1⟩ := i_Rope (h := ab_new h (.inr (2, ab_df 2))) (r := r + 1) (by omega) (by rw [← hq]; exact new_same _ _) (by rw [new_fst, hq])
  obtain ⟨h1, a1, b1, c1, u1, v1⟩ := obj_step (k := 0) (F := fn_Rope_init) e hq (by omega) (by omega) (by first | decide | (simp only [List.length_set]; decide)) e1 y1 z1
  obtain ⟨h2, a2, b2, c2, d2, u2⟩ := arr_step (k := 1) (len := 9) (sort := 0) (L := 9) c1 (show h1.1 = r + 9 by omega) (by omega) (by first | decide | (simp only [List.length_set]; decide)) (by decide) (by decide) (by omega)
  obtain ⟨h3, a3, b3, c3, d3, u3⟩ := arr_step (k := 2) (len := 8) (sort := 0) (L := 8) c2 (show h2.1 = r + 10 by omega) (by omega) (by first | decide | (simp only [List.length_set]; decide)) (by decide) (by decide) (by omega)
  refine ⟨h3, ?_, ⟨⟨0, _, _, c3, (u3 _ (by omega) (by omega)).trans d2, d3⟩, 0, _, _, x1.eq (fun k k1 k2 => ?_), fun _ _ _ _ => rfl⟩, by omega, fun k hk => ?_⟩
  · rw [q_Ways_init, if_pos h16, a1, a2, a3]
  · rw [u3 k (by omega) (by omega), u2 k (by omega) (by omega), u1 k (by omega)]
  · rw [u3 k (by omega) (by omega), u2 k (by omega) (by omega), v1 k (by omega) (by omega)]
theorem i_Tying {h : ab_H} {r : Nat} (h16 : 16 ≤ r) (e : ab_get h r = some (.inr (5, ab_df 5))) (hq : h.1 = r + 1) : ∃ h', fn_Tying_init r h = some (none, h') ∧ ((∃ O B, TyAt h' r O B) ∧ RopeSh h' (r + 1)) ∧ h'.1 = r + 11 ∧ ∀ k, k < r → ab_get h' k = ab_get h k := by
  obtain ⟨w1, e1, x1, y1, z1⟩ := i_Rope (h := ab_new h (.inr (2, ab_df 2))) (r := r + 1) (by omega) (by rw [← hq]; exact new_same _ _) (by rw [new_fst, hq])
  obtain ⟨h1, a1, b1, c1, u1, v1⟩ := obj_step (k := 0) (F := fn_Rope_init) e hq (by omega) (by omega) (by first | decide | (simp only [List.length_set]; decide)) e1 y1 z1
  obtain ⟨h2, a2, b2, c2, d2, u2⟩ := arr_step (k := 1) (len := 5) (sort := 0) (L := 5) c1 (show h1.1 = r + 9 by omega) (by omega) (by first | decide | (simp only [List.length_set]; decide)) (by decide) (by decide) (by omega)
  obtain ⟨h3, a3, b3, c3, d3, u3⟩ := arr_step (k := 2) (len := 5) (sort := 0) (L := 5) c2 (show h2.1 = r + 10 by omega) (by omega) (by first | decide | (simp only [List.length_set]; decide)) (by decide) (by decide) (by omega)
  refine ⟨h3, ?_, ⟨⟨_, _, c3, (u3 _ (by omega) (by omega)).trans d2, d3⟩, 0, _, _, x1.eq (fun k k1 k2 => ?_), fun _ _ _ _ => rfl⟩, by omega, fun k hk => ?_⟩
  · rw [q_Tying_init, if_pos h16, a1, a2, a3]
  · rw [u3 k (by omega) (by omega), u2 k (by omega) (by omega), u1 k (by omega)]
  · rw [u3 k (by omega) (by omega), u2 k (by omega) (by omega), v1 k (by omega) (by omega)]

