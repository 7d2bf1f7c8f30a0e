/-! notes, undos, scenes -/
def NotesAt (h : ab_H) (t n : Nat) (N : Nat → Nat → Int32) : Prop :=
  ab_get h t = some (.inr (1, [.int (nI n), .ref (t + 1), .ref (t + 2)])) ∧ ab_get h (t + 1) = some (.inl (0, 6, N 0)) ∧ ab_get h (t + 2) = some (.inl (0, 6, N 1))
def UndosAt (h : ab_H) (u n : Nat) (U : Nat → Nat → Int32) : Prop :=
  ab_get h u = some (.inr (6, [.int (nI n), .ref (u + 1), .ref (u + 2), .ref (u + 3)])) ∧ ab_get h (u + 1) = some (.inl (0, 8, U 0)) ∧ ab_get h (u + 2) = some (.inl (0, 8, U 1)) ∧ ab_get h (u + 3) = some (.inl (0, 8, U 2))
theorem NotesAt.frm {h h' : ab_H} {t n a m : Nat} {N : Nat → Nat → Int32} (hn : NotesAt h t n N) (f : Frm h h' a m) (hd : t + 3 ≤ a ∨ a + m ≤ t) : NotesAt h' t n N := by
  obtain ⟨h0, h1, h2⟩ := hn
  refine ⟨?_, ?_, ?_⟩ <;> rw [f.2 _ (by omega)] <;> assumption
theorem UndosAt.frm {h h' : ab_H} {u n a m : Nat} {U : Nat → Nat → Int32} (hu : UndosAt h u n U) (f : Frm h h' a m) (hd : u + 4 ≤ a ∨ a + m ≤ u) : UndosAt h' u n U := by
  obtain ⟨h0, h1, h2, h3⟩ := hu
  refine ⟨?_, ?_, ?_, ?_⟩ <;> rw [f.2 _ (by omega)] <;> assumption
theorem NotesAt.to {h : ab_H} {t n : Nat} {N N' : Nat → Nat → Int32} (hn : NotesAt h t n N) (e : ∀ j, j < 2 → N j = N' j) : NotesAt h t n N' := by
  obtain ⟨h0, h1, h2⟩ := hn
  rw [e 0 (by decide)] at h1
  rw [e 1 (by decide)] at h2
  exact ⟨h0, h1, h2⟩
theorem UndosAt.to {h : ab_H} {u n : Nat} {U U' : Nat → Nat → Int32} (hu : UndosAt h u n U) (e : ∀ j, j < 3 → U j = U' j) : UndosAt h u n U' := by
  obtain ⟨h0, h1, h2, h3⟩ := hu
  rw [e 0 (by decide)] at h1
  rw [e 1 (by decide)] at h2
  rw [e 2 (by decide)] at h3
  exact ⟨h0, h1, h2, h3⟩
section
variable {T : Type} {h : ab_H} {t u n : Nat} {N U : Nat → Nat → Int32}
theorem nt_n (hn : NotesAt h t n N) (K : Int32 → Option T) : ab_gfi h t 1 0 K = K (nI n) := gfi_at hn.1 rfl K
theorem nt_c (hn : NotesAt h t n N) (K : Option T) : ab_ckc h t 1 K = K := ckc_at hn.1 K
theorem nt_r0 (hn : NotesAt h t n N) (K : Nat → Option T) : ab_gfr h t 1 1 K = K (t + 1) := gfr_at hn.1 rfl K
theorem nt_l0 (hn : NotesAt h t n N) {p : Nat} (hp : p < 6) (K : Int32 → Option T) : ab_iald h (t + 1) (nI p) K = K (N 0 p) := iald_at hn.2.1 hp (by decide) K
theorem nt_a0 (hn : NotesAt h t n N) {p : Nat} (hp : p < 6) (x : Int32) (K : ab_H → Option T) : ab_iast h (t + 1) (nI p) x K = K (ab_set h (t + 1) (.inl (0, 6, upd (N 0) p x))) := iast_at hn.2.1 hp (by decide) x K
theorem nt_s0 (hn : NotesAt h t n N) (f : Nat → Int32) : NotesAt (ab_set h (t + 1) (.inl (0, 6, f))) t n (ropU N 0 f) := by
  obtain ⟨h0, h1, h2⟩ := hn
  refine ⟨?_, get_same _ _ _, ?_⟩ <;> rw [get_ne _ _ (by omega)] <;> assumption
theorem nt_r1 (hn : NotesAt h t n N) (K : Nat → Option T) : ab_gfr h t 1 2 K = K (t + 2) := gfr_at hn.1 rfl K
theorem nt_l1 (hn : NotesAt h t n N) {p : Nat} (hp : p < 6) (K : Int32 → Option T) : ab_iald h (t + 2) (nI p) K = K (N 1 p) := iald_at hn.2.2 hp (by decide) K
theorem nt_a1 (hn : NotesAt h t n N) {p : Nat} (hp : p < 6) (x : Int32) (K : ab_H → Option T) : ab_iast h (t + 2) (nI p) x K = K (ab_set h (t + 2) (.inl (0, 6, upd (N 1) p x))) := iast_at hn.2.2 hp (by decide) x K
theorem nt_s1 (hn : NotesAt h t n N) (f : Nat → Int32) : NotesAt (ab_set h (t + 2) (.inl (0, 6, f))) t n (ropU N 1 f) := by
  obtain ⟨h0, h1, h2⟩ := hn
  refine ⟨?_, ?_, get_same _ _ _⟩ <;> rw [get_ne _ _ (by omega)] <;> assumption
theorem nt_p (hn : NotesAt h t n N) (x : Int32) (K : ab_H → Option T) : ab_pf h t 1 0 (.int x) K = K (ab_set h t (.inr (1, [.int x, .ref (t + 1), .ref (t + 2)]))) := pf_at hn.1 (Nat.succ_pos _) _ K
theorem nt_sn (hn : NotesAt h t n N) (m : Nat) : NotesAt (ab_set h t (.inr (1, [.int (nI m), .ref (t + 1), .ref (t + 2)]))) t m N := by
  obtain ⟨h0, h1, h2⟩ := hn
  refine ⟨get_same _ _ _, ?_, ?_⟩ <;> rw [get_ne _ _ (by omega)] <;> assumption
theorem un_n (hu : UndosAt h u n U) (K : Int32 → Option T) : ab_gfi h u 6 0 K = K (nI n) := gfi_at hu.1 rfl K
theorem un_c (hu : UndosAt h u n U) (K : Option T) : ab_ckc h u 6 K = K := ckc_at hu.1 K
theorem un_r0 (hu : UndosAt h u n U) (K : Nat → Option T) : ab_gfr h u 6 1 K = K (u + 1) := gfr_at hu.1 rfl K
theorem un_l0 (hu : UndosAt h u n U) {p : Nat} (hp : p < 8) (K : Int32 → Option T) : ab_iald h (u + 1) (nI p) K = K (U 0 p) := iald_at hu.2.1 hp (by decide) K
theorem un_a0 (hu : UndosAt h u n U) {p : Nat} (hp : p < 8) (x : Int32) (K : ab_H → Option T) : ab_iast h (u + 1) (nI p) x K = K (ab_set h (u + 1) (.inl (0, 8, upd (U 0) p x))) := iast_at hu.2.1 hp (by decide) x K
theorem un_s0 (hu : UndosAt h u n U) (f : Nat → Int32) : UndosAt (ab_set h (u + 1) (.inl (0, 8, f))) u n (ropU U 0 f) := by
  obtain ⟨h0, h1, h2, h3⟩ := hu
  refine ⟨?_, get_same _ _ _, ?_, ?_⟩ <;> rw [get_ne _ _ (by omega)] <;> assumption
theorem un_r1 (hu : UndosAt h u n U) (K : Nat → Option T) : ab_gfr h u 6 2 K = K (u + 2) := gfr_at hu.1 rfl K
theorem un_l1 (hu : UndosAt h u n U) {p : Nat} (hp : p < 8) (K : Int32 → Option T) : ab_iald h (u + 2) (nI p) K = K (U 1 p) := iald_at hu.2.2.1 hp (by decide) K
theorem un_a1 (hu : UndosAt h u n U) {p : Nat} (hp : p < 8) (x : Int32) (K : ab_H → Option T) : ab_iast h (u + 2) (nI p) x K = K (ab_set h (u + 2) (.inl (0, 8, upd (U 1) p x))) := iast_at hu.2.2.1 hp (by decide) x K
theorem un_s1 (hu : UndosAt h u n U) (f : Nat → Int32) : UndosAt (ab_set h (u + 2) (.inl (0, 8, f))) u n (ropU U 1 f) := by
  obtain ⟨h0, h1, h2, h3⟩ := hu
  refine ⟨?_, ?_, get_same _ _ _, ?_⟩ <;> rw [get_ne _ _ (by omega)] <;> assumption
theorem un_r2 (hu : UndosAt h u n U) (K : Nat → Option T) : ab_gfr h u 6 3 K = K (u + 3) := gfr_at hu.1 rfl K
theorem un_l2 (hu : UndosAt h u n U) {p : Nat} (hp : p < 8) (K : Int32 → Option T) : ab_iald h (u + 3) (nI p) K = K (U 2 p) := iald_at hu.2.2.2 hp (by decide) K
theorem un_a2 (hu : UndosAt h u n U) {p : Nat} (hp : p < 8) (x : Int32) (K : ab_H → Option T) : ab_iast h (u + 3) (nI p) x K = K (ab_set h (u + 3) (.inl (0, 8, upd (U 2) p x))) := iast_at hu.2.2.2 hp (by decide) x K
theorem un_s2 (hu : UndosAt h u n U) (f : Nat → Int32) : UndosAt (ab_set h (u + 3) (.inl (0, 8, f))) u n (ropU U 2 f) := by
  obtain ⟨h0, h1, h2, h3⟩ := hu
  refine ⟨?_, ?_, ?_, get_same _ _ _⟩ <;> rw [get_ne _ _ (by omega)] <;> assumption
theorem un_p (hu : UndosAt h u n U) (x : Int32) (K : ab_H → Option T) : ab_pf h u 6 0 (.int x) K = K (ab_set h u (.inr (6, [.int x, .ref (u + 1), .ref (u + 2), .ref (u + 3)]))) := pf_at hu.1 (Nat.succ_pos _) _ K
theorem un_sn (hu : UndosAt h u n U) (m : Nat) : UndosAt (ab_set h u (.inr (6, [.int (nI m), .ref (u + 1), .ref (u + 2), .ref (u + 3)]))) u m U := by
  obtain ⟨h0, h1, h2, h3⟩ := hu
  refine ⟨get_same _ _ _, ?_, ?_, ?_⟩ <;> rw [get_ne _ _ (by omega)] <;> assumption
end
/-- a note more -/
def addN (N : Nat → Nat → Int32) (n : Nat) (a b : Int32) : Nat → Nat → Int32 := fun j => if j = 0 then upd (N 0) n a else upd (N 1) n b
theorem s_noteAdd {h : ab_H} {t n : Nat} {N : Nat → Nat → Int32} (hn : NotesAt h t n N) (h6 : n < 6) (a b : Int32) : ∃ h', fn_Notes_add t a b h = some (none, h') ∧ NotesAt h' t (n + 1) (addN N n a b) ∧ Frm h h' t 3 := by
  rw [q_Notes_add, nt_n hn, if_pos (show nI n < (6 : Int32) from nI_lt (b := 6) h6 (by decide)), nt_r0 hn, nt_n hn, nt_a0 hn h6]
  have h1 := nt_s0 hn (upd (N 0) n a)
  rw [nt_r1 h1, nt_n h1, nt_a1 h1 h6, show ropU N 0 (upd (N 0) n a) 1 = N 1 from rfl]
  have h2 := nt_s1 h1 (upd (N 1) n b)
  rw [nt_n h2, nt_p h2, nI_1]
  refine ⟨_, rfl, (nt_sn h2 (n + 1)).to (fun j hj => ?_), ?_⟩
  · rcases (show j = 0 ∨ j = 1 by omega) with rfl | rfl <;> simp [ropU, addN]
  · exact (((Frm.set _ _ _).wide (by omega) (by omega)).trans ((Frm.set _ _ _).wide (by omega) (by omega))).trans ((Frm.set _ _ _).wide (by omega) (by omega))
theorem s_notesCopy {h : ab_H} {t o n k : Nat} {N O : Nat → Nat → Int32} (hn : NotesAt h t n N) (ho : NotesAt h o k O) (hd : t + 3 ≤ o ∨ o + 3 ≤ t) : ∃ h', fn_Notes_copyFrom t o h = some (none, h') ∧ NotesAt h' t k (cpyR O N 6) ∧ Frm h h' t 3 := by
  have e6 : (6 : Int32) = nI 6 := by decide
  rw [q_Notes_copyFrom, e6, nt_n ho, nt_p hn]
  have n1 := nt_sn hn k
  have o1 := ho.frm (Frm.set h t (.inr (1, [.int (nI k), .ref (t + 1), .ref (t + 2)]))) (by omega)
  rw [nt_r0 o1, nt_r0 n1, acp_at o1.2.1 n1.2.1 (by decide)]
  have n2 := nt_s0 n1 (va_cpy (O 0) (N 0) 0 0 6)
  have o2 := o1.frm (Frm.set _ (t + 1) (.inl (0, 6, va_cpy (O 0) (N 0) 0 0 6))) (by omega)
  rw [nt_r1 o2, nt_r1 n2, acp_at o2.2.2 n2.2.2 (by decide), show ropU N 0 (va_cpy (O 0) (N 0) 0 0 6) 1 = N 1 from rfl]
  have n3 := nt_s1 n2 (va_cpy (O 1) (N 1) 0 0 6)
  refine ⟨_, rfl, n3.to (fun j hj => ?_), ?_⟩
  · rcases (show j = 0 ∨ j = 1 by omega) with rfl | rfl <;> simp [ropU, cpyR]
  · exact (((Frm.set _ _ _).wide (by omega) (by omega)).trans ((Frm.set _ _ _).wide (by omega) (by omega))).trans ((Frm.set _ _ _).wide (by omega) (by omega))
theorem s_undosCopy {h : ab_H} {u o n k : Nat} {U O : Nat → Nat → Int32} (hu : UndosAt h u n U) (ho : UndosAt h o k O) (hd : u + 4 ≤ o ∨ o + 4 ≤ u) : ∃ h', fn_Undos_copyFrom u o h = some (none, h') ∧ UndosAt h' u k (cpyR O U 8) ∧ Frm h h' u 4 := by
  have e8 : (8 : Int32) = nI 8 := by decide
  rw [q_Undos_copyFrom, e8, un_n ho, un_p hu]
  have n1 := un_sn hu k
  have o1 := ho.frm (Frm.set h u (.inr (6, [.int (nI k), .ref (u + 1), .ref (u + 2), .ref (u + 3)]))) (by omega)
  rw [un_r0 o1, un_r0 n1, acp_at o1.2.1 n1.2.1 (by decide)]
  have n2 := un_s0 n1 (va_cpy (O 0) (U 0) 0 0 8)
  have o2 := o1.frm (Frm.set _ (u + 1) (.inl (0, 8, va_cpy (O 0) (U 0) 0 0 8))) (by omega)
  rw [un_r1 o2, un_r1 n2, acp_at o2.2.2.1 n2.2.2.1 (by decide), show ropU U 0 (va_cpy (O 0) (U 0) 0 0 8) 1 = U 1 from rfl]
  have n3 := un_s1 n2 (va_cpy (O 1) (U 1) 0 0 8)
  have o3 := o2.frm (Frm.set _ (u + 2) (.inl (0, 8, va_cpy (O 1) (U 1) 0 0 8))) (by omega)
  rw [un_r2 o3, un_r2 n3, acp_at o3.2.2.2 n3.2.2.2 (by decide), show ropU (ropU U 0 (va_cpy (O 0) (U 0) 0 0 8)) 1 (va_cpy (O 1) (U 1) 0 0 8) 2 = U 2 from rfl]
  have n4 := un_s2 n3 (va_cpy (O 2) (U 2) 0 0 8)
  refine ⟨_, rfl, n4.to (fun j hj => ?_), ?_⟩
  · rcases (show j = 0 ∨ j = 1 ∨ j = 2 by omega) with rfl | rfl | rfl <;> simp [ropU, cpyR]
  · exact ((((Frm.set _ _ _).wide (by omega) (by omega)).trans ((Frm.set _ _ _).wide (by omega) (by omega))).trans ((Frm.set _ _ _).wide (by omega) (by omega))).trans ((Frm.set _ _ _).wide (by omega) (by omega))
/-- what is pushed, at place n -/
def pusU (U : Nat → Nat → Int32) (n : Nat) (a b c : Int32) : Nat → Nat → Int32 := fun j => if j = 0 then upd (U 0) n a else if j = 1 then upd (U 1) n b else upd (U 2) n c
theorem s_push13 {h : ab_H} {u n : Nat} {U : Nat → Nat → Int32} (hu : UndosAt h u n U) (h8 : n < 8) (a b c : Int32) : ∃ h', pt_Undos_push_13 u a b c h = some (none, h') ∧ UndosAt h' u (n + 1) (pusU U n a b c) ∧ Frm h h' u 4 := by
  rw [q_Undos_push_13, un_r0 hu, un_n hu, un_a0 hu h8]
  have h1 := un_s0 hu (upd (U 0) n a)
  rw [un_r1 h1, un_n h1, un_a1 h1 h8, show ropU U 0 (upd (U 0) n a) 1 = U 1 from rfl]
  have h2 := un_s1 h1 (upd (U 1) n b)
  rw [un_r2 h2, un_n h2, un_a2 h2 h8, show ropU (ropU U 0 (upd (U 0) n a)) 1 (upd (U 1) n b) 2 = U 2 from rfl]
  have h3 := un_s2 h2 (upd (U 2) n c)
  rw [un_n h3, un_p h3, nI_1]
  refine ⟨_, rfl, (un_sn h3 (n + 1)).to (fun j hj => ?_), ?_⟩
  · rcases (show j = 0 ∨ j = 1 ∨ j = 2 by omega) with rfl | rfl | rfl <;> simp [ropU, pusU]
  · exact ((((Frm.set _ _ _).wide (by omega) (by omega)).trans ((Frm.set _ _ _).wide (by omega) (by omega))).trans ((Frm.set _ _ _).wide (by omega) (by omega))).trans ((Frm.set _ _ _).wide (by omega) (by omega))
/-- the oldest dropped, as far as place k -/
def drpU (U : Nat → Nat → Int32) (k : Nat) : Nat → Nat → Int32 := fun j i => if i < k then U j (i + 1) else U j i
theorem drpU_succ (U : Nat → Nat → Int32) (k j : Nat) : upd (drpU U k j) k (drpU U k j (k + 1)) = drpU U (k + 1) j := by
  funext i
  simp only [upd, drpU]
  by_cases h1 : i = k
  · subst h1; simp [show ¬ i + 1 < i by omega]
  · by_cases h2 : i < k
    · simp [h1, h2, show i < k + 1 by omega]
    · simp [h1, h2, show ¬ i < k + 1 by omega]
theorem s_drop_loop {u : Nat} {U : Nat → Nat → Int32} : ∀ (k i : Nat) (h : ab_H), i + k = 7 → UndosAt h u 7 (drpU U i) → ∃ h', pt_Undos_dropOldest_8 u (nI i) h = some (none, h') ∧ UndosAt h' u 7 (drpU U 7) ∧ Frm h h' u 4 := by
  intro k
  induction k with
  | zero =>
    intro i h hi hu
    have hi : i = 7 := by omega
    subst hi
    rw [q_Undos_dropOldest_8, un_n hu, if_pos (nI_le (by omega) (by decide))]
    exact ⟨h, rfl, hu, Frm.refl _ _ _⟩
  | succ k ih =>
    intro i h hi hu
    rw [q_Undos_dropOldest_8, un_n hu, if_neg (nI_ge (by omega) (by decide)), un_r0 hu, un_r0 hu, nI_1, un_l0 hu (by omega), un_a0 hu (by omega), drpU_succ]
    have h1 := un_s0 hu (drpU U (i + 1) 0)
    rw [un_r1 h1, un_r1 h1, un_l1 h1 (by omega), un_a1 h1 (by omega), show ropU (drpU U i) 0 (drpU U (i + 1) 0) 1 = drpU U i 1 from rfl, drpU_succ]
    have h2 := un_s1 h1 (drpU U (i + 1) 1)
    rw [un_r2 h2, un_r2 h2, un_l2 h2 (by omega), un_a2 h2 (by omega), show ropU (ropU (drpU U i) 0 (drpU U (i + 1) 0)) 1 (drpU U (i + 1) 1) 2 = drpU U i 2 from rfl, drpU_succ]
    have h3 := un_s2 h2 (drpU U (i + 1) 2)
    have h4 : UndosAt _ u 7 (drpU U (i + 1)) := h3.to (fun j hj => by
      rcases (show j = 0 ∨ j = 1 ∨ j = 2 by omega) with rfl | rfl | rfl <;> simp [ropU])
    obtain ⟨h5, e5, u5, f5⟩ := ih (i + 1) _ (by omega) h4
    refine ⟨h5, e5, u5, Frm.trans ?_ f5⟩
    exact (((Frm.set _ _ _).wide (by omega) (by omega)).trans ((Frm.set _ _ _).wide (by omega) (by omega))).trans ((Frm.set _ _ _).wide (by omega) (by omega))
theorem s_push {h : ab_H} {u n : Nat} {U : Nat → Nat → Int32} (hu : UndosAt h u n U) (h8 : n ≤ 8) (a b c : Int32) : ∃ h', fn_Undos_push u a b c h = some (none, h') ∧ UndosAt h' u (if n < 8 then n + 1 else 8) (if n < 8 then pusU U n a b c else pusU (drpU U 7) 7 a b c) ∧ Frm h h' u 4 := by
  rw [q_Undos_push, un_n hu]
  by_cases hn : n < 8
  · rw [if_pos (show nI n < (8 : Int32) from nI_lt (b := 8) hn (by decide)), if_pos hn, if_pos hn]
    exact s_push13 hu hn a b c
  · have e8 : n = 8 := by omega
    subst e8
    rw [if_neg (show ¬ nI 8 < (8 : Int32) by decide), if_neg hn, if_neg hn, un_c hu, q_Undos_dropOldest, un_p hu]
    have h1 := un_sn hu 7
    have d0 : drpU U 0 = U := by funext j i; simp [drpU]
    obtain ⟨h2, e2, u2, f2⟩ := s_drop_loop (u := u) (U := U) 7 0 _ (by omega) (by rw [d0]; exact h1)
    rw [nI_0] at e2
    rw [show (7 : Int32) = nI 7 by decide, e2, cV_some]
    obtain ⟨h3, e3, u3, f3⟩ := s_push13 u2 (by decide) a b c
    exact ⟨h3, e3, u3, (((Frm.set _ _ _).wide (by omega) (by omega)).trans f2).trans f3⟩
