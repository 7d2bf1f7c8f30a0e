/-! bits of a rope; walls, notes, undos: the small methods -/
theorem bt_or : ∀ m, m < 32 → ∀ i, i < 5 → nI (m % 2 ^ i) ||| (bt1 m i <<< (nI i &&& 31)) = nI (m % 2 ^ (i + 1)) := by decide +kernel
theorem pow_le32 {n : Nat} (hn : n ≤ 5) : 2 ^ n ≤ 32 := Nat.pow_le_pow_right (n := 2) (by decide) hn
theorem s_sagBits_loop {h : ab_H} {r n m : Nat} {R : Nat → Nat → Int32} (hr : RopeAt h r n R) (hn : n ≤ 5) (hm : m < 2 ^ n) (hb : ∀ i, i < n → R 5 i = bt1 m i) : ∀ (k i : Nat), i + k = n → pt_Rope_sagBits_4 r (nI (m % 2 ^ i)) (nI i) h = some (some (.int (nI m)), h) := by
  have h32 := pow_le32 hn
  intro k
  induction k with
  | zero =>
    intro i hi
    rw [q_Rope_sagBits_4, rp_n hr, if_pos (nI_le (by omega) (by omega))]
    rw [show i = n by omega, Nat.mod_eq_of_lt hm]
  | succ k ih =>
    intro i hi
    rw [q_Rope_sagBits_4, rp_n hr, if_neg (nI_ge (by omega) (by omega)), rp_r5 hr, rp_l5 hr (by omega), hb i (by omega), bt_or m (by omega) i (by omega), nI_1]
    exact ih (i + 1) (by omega)
theorem s_sagBits {h : ab_H} {r n m : Nat} {R : Nat → Nat → Int32} (hr : RopeAt h r n R) (hn : n ≤ 5) (hm : m < 2 ^ n) (hb : ∀ i, i < n → R 5 i = bt1 m i) : fn_Rope_sagBits r h = some (some (.int (nI m)), h) := by
  have := s_sagBits_loop hr hn hm hb n 0 (by omega)
  rw [Nat.pow_zero, Nat.mod_one, nI_0] at this
  rw [q_Rope_sagBits]
  exact this
theorem s_restBits_loop {h : ab_H} {r n m : Nat} {R : Nat → Nat → Int32} (hr : RopeAt h r n R) (hn : n ≤ 5) (hm : m < 2 ^ n) (hb : ∀ i, i < n → R 6 i = bt1 m i) : ∀ (k i : Nat), i + k = n → pt_Rope_restBits_4 r (nI (m % 2 ^ i)) (nI i) h = some (some (.int (nI m)), h) := by
  have h32 := pow_le32 hn
  intro k
  induction k with
  | zero =>
    intro i hi
    rw [q_Rope_restBits_4, rp_n hr, if_pos (nI_le (by omega) (by omega))]
    rw [show i = n by omega, Nat.mod_eq_of_lt hm]
  | succ k ih =>
    intro i hi
    rw [q_Rope_restBits_4, rp_n hr, if_neg (nI_ge (by omega) (by omega)), rp_r6 hr, rp_l6 hr (by omega), hb i (by omega), bt_or m (by omega) i (by omega), nI_1]
    exact ih (i + 1) (by omega)
theorem s_restBits {h : ab_H} {r n m : Nat} {R : Nat → Nat → Int32} (hr : RopeAt h r n R) (hn : n ≤ 5) (hm : m < 2 ^ n) (hb : ∀ i, i < n → R 6 i = bt1 m i) : fn_Rope_restBits r h = some (some (.int (nI m)), h) := by
  have := s_restBits_loop hr hn hm hb n 0 (by omega)
  rw [Nat.pow_zero, Nat.mod_one, nI_0] at this
  rw [q_Rope_restBits]
  exact this
theorem WallAt.to {h : ab_H} {w : Nat} {W W' : Nat → Nat → Int32} (hw : WallAt h w W) (e : ∀ j, j < 4 → W j = W' j) : WallAt h w W' := by
  obtain ⟨h0, h1, h2, h3, h4⟩ := hw
  rw [e 0 (by decide)] at h1
  rw [e 1 (by decide)] at h2
  rw [e 2 (by decide)] at h3
  rw [e 3 (by decide)] at h4
  exact ⟨h0, h1, h2, h3, h4⟩
theorem wl_s0 {h : ab_H} {w : Nat} {W : Nat → Nat → Int32} (hw : WallAt h w W) (f : Nat → Int32) : WallAt (ab_set h (w + 1) (.inl (0, 8, f))) w (ropU W 0 f) := by
  obtain ⟨h0, h1, h2, h3, h4⟩ := hw
  refine ⟨?_, get_same _ _ _, ?_, ?_, ?_⟩ <;> rw [get_ne _ _ (by omega)] <;> assumption
theorem wl_s1 {h : ab_H} {w : Nat} {W : Nat → Nat → Int32} (hw : WallAt h w W) (f : Nat → Int32) : WallAt (ab_set h (w + 2) (.inl (0, 8, f))) w (ropU W 1 f) := by
  obtain ⟨h0, h1, h2, h3, h4⟩ := hw
  refine ⟨?_, ?_, get_same _ _ _, ?_, ?_⟩ <;> rw [get_ne _ _ (by omega)] <;> assumption
theorem wl_s2 {h : ab_H} {w : Nat} {W : Nat → Nat → Int32} (hw : WallAt h w W) (f : Nat → Int32) : WallAt (ab_set h (w + 3) (.inl (0, 8, f))) w (ropU W 2 f) := by
  obtain ⟨h0, h1, h2, h3, h4⟩ := hw
  refine ⟨?_, ?_, ?_, get_same _ _ _, ?_⟩ <;> rw [get_ne _ _ (by omega)] <;> assumption
theorem wl_s3 {h : ab_H} {w : Nat} {W : Nat → Nat → Int32} (hw : WallAt h w W) (f : Nat → Int32) : WallAt (ab_set h (w + 4) (.inl (0, 8, f))) w (ropU W 3 f) := by
  obtain ⟨h0, h1, h2, h3, h4⟩ := hw
  refine ⟨?_, ?_, ?_, ?_, get_same _ _ _⟩ <;> rw [get_ne _ _ (by omega)] <;> assumption
/-- a pitch told -/
def telW (W : Nat → Nat → Int32) (p : Nat) (a b c : Int32) : Nat → Nat → Int32 := fun j => if j = 1 then upd (W 1) p a else if j = 2 then upd (W 2) p b else if j = 3 then upd (W 3) p c else W j
theorem s_tell {h : ab_H} {w : Nat} {W : Nat → Nat → Int32} (hw : WallAt h w W) {p : Nat} (hp : p < 8) (a b c : Int32) : ∃ h', fn_Wall_tell w (nI p) a b c h = some (none, h') ∧ WallAt h' w (telW W p a b c) ∧ Frm h h' w 5 := by
  rw [q_Wall_tell, wl_r1 hw, iast_at hw.2.2.1 hp (by decide)]
  have h1 := wl_s1 hw (upd (W 1) p a)
  rw [wl_r2 h1, iast_at h1.2.2.2.1 hp (by decide), show ropU W 1 (upd (W 1) p a) 2 = W 2 from rfl]
  have h2 := wl_s2 h1 (upd (W 2) p b)
  rw [wl_r3 h2, iast_at h2.2.2.2.2 hp (by decide), show ropU (ropU W 1 (upd (W 1) p a)) 2 (upd (W 2) p b) 3 = W 3 from rfl]
  have h3 := wl_s3 h2 (upd (W 3) p c)
  refine ⟨_, rfl, h3.to (fun j hj => ?_), ?_⟩
  · rcases (show j = 0 ∨ j = 1 ∨ j = 2 ∨ j = 3 by omega) with rfl | rfl | rfl | rfl <;> simp [ropU, telW]
  · exact (((Frm.set _ _ _).wide (by omega) (by omega)).trans ((Frm.set _ _ _).wide (by omega) (by omega))).trans ((Frm.set _ _ _).wide (by omega) (by omega))
/-- the wall at first, up to pitch k -/
def wall0 (k : Nat) (W : Nat → Nat → Int32) : Nat → Nat → Int32 := fun j i => if i < k then (if j = 0 ∨ j = 1 then 0 else nI (i + 1)) else W j i
theorem s_wreset_loop {w : Nat} {W : Nat → Nat → Int32} : ∀ (k i : Nat) (h : ab_H), i + k = 8 → WallAt h w (wall0 i W) → ∃ h', pt_Wall_reset_2 w (nI i) h = some (none, h') ∧ WallAt h' w (wall0 8 W) ∧ Frm h h' w 5 := by
  intro k
  induction k with
  | zero =>
    intro i h hi hw
    have hi : i = 8 := by omega
    subst hi
    rw [q_Wall_reset_2, if_pos (by decide)]
    exact ⟨h, rfl, hw, Frm.refl _ _ _⟩
  | succ k ih =>
    intro i h hi hw
    have hi8 : i < 8 := by omega
    rw [q_Wall_reset_2, if_neg (show ¬ (8 : Int32) ≤ nI i from nI_ge (b := 8) hi8 (by decide)), wl_r0 hw, iast_at hw.2.1 hi8 (by decide)]
    have h1 := wl_s0 hw (upd (wall0 i W 0) i 0)
    rw [wl_c h1, nI_1]
    obtain ⟨h2, e2, hw2, f2⟩ := s_tell h1 hi8 0 (nI (i + 1)) (nI (i + 1))
    rw [e2, cV_some]
    have hw3 : WallAt h2 w (wall0 (i + 1) W) := hw2.to (fun j hj => by
      funext z
      rcases (show j = 0 ∨ j = 1 ∨ j = 2 ∨ j = 3 by omega) with rfl | rfl | rfl | rfl
      all_goals
        by_cases hz : z = i
        · subst hz; simp [telW, ropU, wall0, upd]
        · by_cases hz2 : z < i
          · simp [telW, ropU, wall0, upd, hz, hz2, show z < i + 1 by omega]
          · simp [telW, ropU, wall0, upd, hz, hz2, show ¬ z < i + 1 by omega])
    obtain ⟨h4, e4, hw4, f4⟩ := ih (i + 1) h2 (by omega) hw3
    exact ⟨h4, e4, hw4, (((Frm.set _ _ _).wide (by omega) (by omega)).trans f2).trans f4⟩
theorem s_wreset {h : ab_H} {w : Nat} {W : Nat → Nat → Int32} (hw : WallAt h w W) : ∃ h', fn_Wall_reset w h = some (none, h') ∧ WallAt h' w (wall0 8 W) ∧ Frm h h' w 5 := by
  have h0 : wall0 0 W = W := by funext j i; simp [wall0]
  have := s_wreset_loop (w := w) (W := W) 8 0 h (by omega) (by rw [h0]; exact hw)
  rw [nI_0] at this
  rw [q_Wall_reset]
  exact this
theorem acp_at {T : Type} {h : ab_H} {a d n : Nat} {f g : Nat → Int32} (e1 : ab_get h a = some (.inl (0, n, f))) (e2 : ab_get h d = some (.inl (0, n, g))) (hn : n < 2 ^ 31) (K : ab_H → Option T) : ab_acp h a 0 d 0 (nI n) K = K (ab_set h d (.inl (0, n, va_cpy f g 0 0 n))) := by
  unfold ab_acp
  rw [e1, e2]
  simp only
  rw [nI_clamp hn, show (0 : Int32).toNatClampNeg = 0 from rfl, if_pos ⟨trivial, trivial, by decide, by decide, nI_pos' hn, by omega, by omega⟩]
/-- rows copied whole -/
def cpyR (O R : Nat → Nat → Int32) (n : Nat) : Nat → Nat → Int32 := fun j => va_cpy (O j) (R j) 0 0 n
theorem s_wallCopy {h : ab_H} {w o : Nat} {W O : Nat → Nat → Int32} (hw : WallAt h w W) (ho : WallAt h o O) (hd : w + 5 ≤ o ∨ o + 5 ≤ w) : ∃ h', fn_Wall_copyFrom w o h = some (none, h') ∧ WallAt h' w (cpyR O W 8) ∧ Frm h h' w 5 := by
  have e8 : (8 : Int32) = nI 8 := by decide
  rw [q_Wall_copyFrom, e8, wl_r0 ho, wl_r0 hw, acp_at ho.2.1 hw.2.1 (by decide)]
  have w1 := wl_s0 hw (va_cpy (O 0) (W 0) 0 0 8)
  have o1 := ho.frm (Frm.set h (w + 1) (.inl (0, 8, va_cpy (O 0) (W 0) 0 0 8))) (by omega)
  rw [wl_r1 o1, wl_r1 w1, acp_at o1.2.2.1 w1.2.2.1 (by decide)]
  have w2 := wl_s1 w1 (va_cpy (O 1) (W 1) 0 0 8)
  have o2 := o1.frm (Frm.set _ (w + 2) (.inl (0, 8, va_cpy (O 1) (W 1) 0 0 8))) (by omega)
  rw [show ropU W 0 (va_cpy (O 0) (W 0) 0 0 8) 1 = W 1 from rfl, wl_r2 o2, wl_r2 w2, acp_at o2.2.2.2.1 w2.2.2.2.1 (by decide)]
  have w3 := wl_s2 w2 (va_cpy (O 2) (W 2) 0 0 8)
  have o3 := o2.frm (Frm.set _ (w + 3) (.inl (0, 8, va_cpy (O 2) (W 2) 0 0 8))) (by omega)
  rw [show ropU (ropU W 0 (va_cpy (O 0) (W 0) 0 0 8)) 1 (va_cpy (O 1) (W 1) 0 0 8) 2 = W 2 from rfl, wl_r3 o3, wl_r3 w3, acp_at o3.2.2.2.2 w3.2.2.2.2 (by decide)]
  have w4 := wl_s3 w3 (va_cpy (O 3) (W 3) 0 0 8)
  rw [show ropU (ropU (ropU W 0 (va_cpy (O 0) (W 0) 0 0 8)) 1 (va_cpy (O 1) (W 1) 0 0 8)) 2 (va_cpy (O 2) (W 2) 0 0 8) 3 = W 3 from rfl]
  refine ⟨_, rfl, w4.to (fun j hj => ?_), ?_⟩
  · rcases (show j = 0 ∨ j = 1 ∨ j = 2 ∨ j = 3 by omega) with rfl | rfl | rfl | rfl <;> simp [ropU, cpyR]
  · exact ((((Frm.set _ _ _).wide (by omega) (by omega)).trans ((Frm.set _ _ _).wide (by omega) (by omega))).trans ((Frm.set _ _ _).wide (by omega) (by omega))).trans ((Frm.set _ _ _).wide (by omega) (by omega))
