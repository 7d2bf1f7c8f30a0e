/-! frames; tying anew -/
/-- nothing changed but the n cells from a on -/
def Frm (h h' : ab_H) (a n : Nat) : Prop := h'.1 = h.1 ∧ ∀ k, (k < a ∨ a + n ≤ k) → ab_get h' k = ab_get h k
theorem Frm.refl (h : ab_H) (a n : Nat) : Frm h h a n := ⟨rfl, fun _ _ => rfl⟩
theorem Frm.trans {h h1 h2 : ab_H} {a n : Nat} (f : Frm h h1 a n) (g : Frm h1 h2 a n) : Frm h h2 a n := ⟨g.1.trans f.1, fun k hk => (g.2 k hk).trans (f.2 k hk)⟩
theorem Frm.wide {h h' : ab_H} {a n b m : Nat} (f : Frm h h' a n) (h1 : b ≤ a) (h2 : a + n ≤ b + m) : Frm h h' b m := ⟨f.1, fun k hk => f.2 k (by omega)⟩
theorem Frm.set (h : ab_H) (a : Nat) (c : ab_Ce) : Frm h (ab_set h a c) a 1 := ⟨rfl, fun k hk => get_ne _ _ (by omega)⟩
theorem RopeAt.frm {h h' : ab_H} {r n a m : Nat} {R : Nat → Nat → Int32} (hr : RopeAt h r n R) (f : Frm h h' a m) (hd : r + 8 ≤ a ∨ a + m ≤ r) : RopeAt h' r n R := by
  obtain ⟨h0, h1, h2, h3, h4, h5, h6, h7⟩ := hr
  refine ⟨?_, ?_, ?_, ?_, ?_, ?_, ?_, ?_⟩ <;> rw [f.2 _ (by omega)] <;> assumption
theorem WallAt.frm {h h' : ab_H} {w a m : Nat} {W : Nat → Nat → Int32} (hw : WallAt h w W) (f : Frm h h' a m) (hd : w + 5 ≤ a ∨ a + m ≤ w) : WallAt h' w W := by
  obtain ⟨h0, h1, h2, h3, h4⟩ := hw
  refine ⟨?_, ?_, ?_, ?_, ?_⟩ <;> rw [f.2 _ (by omega)] <;> assumption
theorem RopeAt.to {h : ab_H} {r n : Nat} {R R' : Nat → Nat → Int32} (hr : RopeAt h r n R) (e : ∀ j, j < 7 → R j = R' j) : RopeAt h r n R' := by
  obtain ⟨h0, h1, h2, h3, h4, h5, h6, h7⟩ := hr
  rw [e 0 (by decide)] at h1
  rw [e 1 (by decide)] at h2
  rw [e 2 (by decide)] at h3
  rw [e 3 (by decide)] at h4
  rw [e 4 (by decide)] at h5
  rw [e 5 (by decide)] at h6
  rw [e 6 (by decide)] at h7
  exact ⟨h0, h1, h2, h3, h4, h5, h6, h7⟩
theorem rp_s0 {h : ab_H} {r n : Nat} {R : Nat → Nat → Int32} (hr : RopeAt h r n R) (f : Nat → Int32) : RopeAt (ab_set h (r + 1) (.inl (0, 5, f))) r n (ropU R 0 f) := by
  obtain ⟨h0, h1, h2, h3, h4, h5, h6, h7⟩ := hr
  refine ⟨?_, get_same _ _ _, ?_, ?_, ?_, ?_, ?_, ?_⟩ <;> rw [get_ne _ _ (by omega)] <;> assumption
theorem rp_o0 {h : ab_H} {r o n : Nat} {O : Nat → Nat → Int32} (ho : RopeAt h o n O) (hd : r + 8 ≤ o ∨ o + 8 ≤ r) (f : Nat → Int32) : RopeAt (ab_set h (r + 1) (.inl (0, 5, f))) o n O := ho.frm (Frm.set _ _ _) (by omega)
theorem tie_c0 {T : Type} {h : ab_H} {r o n k : Nat} {R O : Nat → Nat → Int32} (hr : RopeAt h r n R) (ho : RopeAt h o k O) (hn : n < 5) {p : Nat} (hp : p < 5) (K : ab_H → Option T) : (ab_gfr h r 2 1 fun a => ab_gfi h r 2 0 fun b => ab_gfr h o 2 1 fun c => ab_iald h c (nI p) fun d => ab_iast h a b d K) = K (ab_set h (r + 1) (.inl (0, 5, upd (R 0) n (O 0 p)))) := by
  rw [rp_r0 hr, rp_n hr, rp_r0 ho, rp_l0 ho hp, iast_at hr.2.1 hn (by decide)]
theorem rp_s1 {h : ab_H} {r n : Nat} {R : Nat → Nat → Int32} (hr : RopeAt h r n R) (f : Nat → Int32) : RopeAt (ab_set h (r + 2) (.inl (0, 5, f))) r n (ropU R 1 f) := by
  obtain ⟨h0, h1, h2, h3, h4, h5, h6, h7⟩ := hr
  refine ⟨?_, ?_, get_same _ _ _, ?_, ?_, ?_, ?_, ?_⟩ <;> rw [get_ne _ _ (by omega)] <;> assumption
theorem rp_o1 {h : ab_H} {r o n : Nat} {O : Nat → Nat → Int32} (ho : RopeAt h o n O) (hd : r + 8 ≤ o ∨ o + 8 ≤ r) (f : Nat → Int32) : RopeAt (ab_set h (r + 2) (.inl (0, 5, f))) o n O := ho.frm (Frm.set _ _ _) (by omega)
theorem tie_c1 {T : Type} {h : ab_H} {r o n k : Nat} {R O : Nat → Nat → Int32} (hr : RopeAt h r n R) (ho : RopeAt h o k O) (hn : n < 5) {p : Nat} (hp : p < 5) (K : ab_H → Option T) : (ab_gfr h r 2 2 fun a => ab_gfi h r 2 0 fun b => ab_gfr h o 2 2 fun c => ab_iald h c (nI p) fun d => ab_iast h a b d K) = K (ab_set h (r + 2) (.inl (0, 5, upd (R 1) n (O 1 p)))) := by
  rw [rp_r1 hr, rp_n hr, rp_r1 ho, rp_l1 ho hp, iast_at hr.2.2.1 hn (by decide)]
theorem rp_s2 {h : ab_H} {r n : Nat} {R : Nat → Nat → Int32} (hr : RopeAt h r n R) (f : Nat → Int32) : RopeAt (ab_set h (r + 3) (.inl (0, 5, f))) r n (ropU R 2 f) := by
  obtain ⟨h0, h1, h2, h3, h4, h5, h6, h7⟩ := hr
  refine ⟨?_, ?_, ?_, get_same _ _ _, ?_, ?_, ?_, ?_⟩ <;> rw [get_ne _ _ (by omega)] <;> assumption
theorem rp_o2 {h : ab_H} {r o n : Nat} {O : Nat → Nat → Int32} (ho : RopeAt h o n O) (hd : r + 8 ≤ o ∨ o + 8 ≤ r) (f : Nat → Int32) : RopeAt (ab_set h (r + 3) (.inl (0, 5, f))) o n O := ho.frm (Frm.set _ _ _) (by omega)
theorem tie_c2 {T : Type} {h : ab_H} {r o n k : Nat} {R O : Nat → Nat → Int32} (hr : RopeAt h r n R) (ho : RopeAt h o k O) (hn : n < 5) {p : Nat} (hp : p < 5) (K : ab_H → Option T) : (ab_gfr h r 2 3 fun a => ab_gfi h r 2 0 fun b => ab_gfr h o 2 3 fun c => ab_iald h c (nI p) fun d => ab_iast h a b d K) = K (ab_set h (r + 3) (.inl (0, 5, upd (R 2) n (O 2 p)))) := by
  rw [rp_r2 hr, rp_n hr, rp_r2 ho, rp_l2 ho hp, iast_at hr.2.2.2.1 hn (by decide)]
theorem rp_s3 {h : ab_H} {r n : Nat} {R : Nat → Nat → Int32} (hr : RopeAt h r n R) (f : Nat → Int32) : RopeAt (ab_set h (r + 4) (.inl (0, 5, f))) r n (ropU R 3 f) := by
  obtain ⟨h0, h1, h2, h3, h4, h5, h6, h7⟩ := hr
  refine ⟨?_, ?_, ?_, ?_, get_same _ _ _, ?_, ?_, ?_⟩ <;> rw [get_ne _ _ (by omega)] <;> assumption
theorem rp_o3 {h : ab_H} {r o n : Nat} {O : Nat → Nat → Int32} (ho : RopeAt h o n O) (hd : r + 8 ≤ o ∨ o + 8 ≤ r) (f : Nat → Int32) : RopeAt (ab_set h (r + 4) (.inl (0, 5, f))) o n O := ho.frm (Frm.set _ _ _) (by omega)
theorem tie_c3 {T : Type} {h : ab_H} {r o n k : Nat} {R O : Nat → Nat → Int32} (hr : RopeAt h r n R) (ho : RopeAt h o k O) (hn : n < 5) {p : Nat} (hp : p < 5) (K : ab_H → Option T) : (ab_gfr h r 2 4 fun a => ab_gfi h r 2 0 fun b => ab_gfr h o 2 4 fun c => ab_iald h c (nI p) fun d => ab_iast h a b d K) = K (ab_set h (r + 4) (.inl (0, 5, upd (R 3) n (O 3 p)))) := by
  rw [rp_r3 hr, rp_n hr, rp_r3 ho, rp_l3 ho hp, iast_at hr.2.2.2.2.1 hn (by decide)]
theorem rp_s4 {h : ab_H} {r n : Nat} {R : Nat → Nat → Int32} (hr : RopeAt h r n R) (f : Nat → Int32) : RopeAt (ab_set h (r + 5) (.inl (0, 5, f))) r n (ropU R 4 f) := by
  obtain ⟨h0, h1, h2, h3, h4, h5, h6, h7⟩ := hr
  refine ⟨?_, ?_, ?_, ?_, ?_, get_same _ _ _, ?_, ?_⟩ <;> rw [get_ne _ _ (by omega)] <;> assumption
theorem rp_o4 {h : ab_H} {r o n : Nat} {O : Nat → Nat → Int32} (ho : RopeAt h o n O) (hd : r + 8 ≤ o ∨ o + 8 ≤ r) (f : Nat → Int32) : RopeAt (ab_set h (r + 5) (.inl (0, 5, f))) o n O := ho.frm (Frm.set _ _ _) (by omega)
theorem tie_c4 {T : Type} {h : ab_H} {r o n k : Nat} {R O : Nat → Nat → Int32} (hr : RopeAt h r n R) (ho : RopeAt h o k O) (hn : n < 5) {p : Nat} (hp : p < 5) (K : ab_H → Option T) : (ab_gfr h r 2 5 fun a => ab_gfi h r 2 0 fun b => ab_gfr h o 2 5 fun c => ab_iald h c (nI p) fun d => ab_iast h a b d K) = K (ab_set h (r + 5) (.inl (0, 5, upd (R 4) n (O 4 p)))) := by
  rw [rp_r4 hr, rp_n hr, rp_r4 ho, rp_l4 ho hp, iast_at hr.2.2.2.2.2.1 hn (by decide)]
theorem rp_s5 {h : ab_H} {r n : Nat} {R : Nat → Nat → Int32} (hr : RopeAt h r n R) (f : Nat → Int32) : RopeAt (ab_set h (r + 6) (.inl (0, 5, f))) r n (ropU R 5 f) := by
  obtain ⟨h0, h1, h2, h3, h4, h5, h6, h7⟩ := hr
  refine ⟨?_, ?_, ?_, ?_, ?_, ?_, get_same _ _ _, ?_⟩ <;> rw [get_ne _ _ (by omega)] <;> assumption
theorem rp_o5 {h : ab_H} {r o n : Nat} {O : Nat → Nat → Int32} (ho : RopeAt h o n O) (hd : r + 8 ≤ o ∨ o + 8 ≤ r) (f : Nat → Int32) : RopeAt (ab_set h (r + 6) (.inl (0, 5, f))) o n O := ho.frm (Frm.set _ _ _) (by omega)
theorem tie_c5 {T : Type} {h : ab_H} {r o n k : Nat} {R O : Nat → Nat → Int32} (hr : RopeAt h r n R) (ho : RopeAt h o k O) (hn : n < 5) {p : Nat} (hp : p < 5) (K : ab_H → Option T) : (ab_gfr h r 2 6 fun a => ab_gfi h r 2 0 fun b => ab_gfr h o 2 6 fun c => ab_iald h c (nI p) fun d => ab_iast h a b d K) = K (ab_set h (r + 6) (.inl (0, 5, upd (R 5) n (O 5 p)))) := by
  rw [rp_r5 hr, rp_n hr, rp_r5 ho, rp_l5 ho hp, iast_at hr.2.2.2.2.2.2.1 hn (by decide)]
theorem rp_s6 {h : ab_H} {r n : Nat} {R : Nat → Nat → Int32} (hr : RopeAt h r n R) (f : Nat → Int32) : RopeAt (ab_set h (r + 7) (.inl (0, 5, f))) r n (ropU R 6 f) := by
  obtain ⟨h0, h1, h2, h3, h4, h5, h6, h7⟩ := hr
  refine ⟨?_, ?_, ?_, ?_, ?_, ?_, ?_, get_same _ _ _⟩ <;> rw [get_ne _ _ (by omega)] <;> assumption
theorem rp_o6 {h : ab_H} {r o n : Nat} {O : Nat → Nat → Int32} (ho : RopeAt h o n O) (hd : r + 8 ≤ o ∨ o + 8 ≤ r) (f : Nat → Int32) : RopeAt (ab_set h (r + 7) (.inl (0, 5, f))) o n O := ho.frm (Frm.set _ _ _) (by omega)
theorem tie_c6 {T : Type} {h : ab_H} {r o n k : Nat} {R O : Nat → Nat → Int32} (hr : RopeAt h r n R) (ho : RopeAt h o k O) (hn : n < 5) {p : Nat} (hp : p < 5) (K : ab_H → Option T) : (ab_gfr h r 2 7 fun a => ab_gfi h r 2 0 fun b => ab_gfr h o 2 7 fun c => ab_iald h c (nI p) fun d => ab_iast h a b d K) = K (ab_set h (r + 7) (.inl (0, 5, upd (R 6) n (O 6 p)))) := by
  rw [rp_r6 hr, rp_n hr, rp_r6 ho, rp_l6 ho hp, iast_at hr.2.2.2.2.2.2.2 hn (by decide)]
theorem rp_sn {h : ab_H} {r n m : Nat} {R : Nat → Nat → Int32} (hr : RopeAt h r n R) : RopeAt (ab_set h r (.inr (2, [.int (nI m), .ref (r + 1), .ref (r + 2), .ref (r + 3), .ref (r + 4), .ref (r + 5), .ref (r + 6), .ref (r + 7)]))) r m R := by
  obtain ⟨h0, h1, h2, h3, h4, h5, h6, h7⟩ := hr
  refine ⟨get_same _ _ _, ?_, ?_, ?_, ?_, ?_, ?_, ?_⟩ <;> rw [get_ne _ _ (by omega)] <;> assumption
theorem rp_pn {T : Type} {h : ab_H} {r n : Nat} {R : Nat → Nat → Int32} (hr : RopeAt h r n R) (x : Int32) (K : ab_H → Option T) : ab_pf h r 2 0 (.int x) K = K (ab_set h r (.inr (2, [.int x, .ref (r + 1), .ref (r + 2), .ref (r + 3), .ref (r + 4), .ref (r + 5), .ref (r + 6), .ref (r + 7)]))) := pf_at hr.1 (Nat.succ_pos _) _ K
theorem s_tie {h : ab_H} {r o n k : Nat} {R O : Nat → Nat → Int32} (hr : RopeAt h r n R) (ho : RopeAt h o k O) (hd : r + 8 ≤ o ∨ o + 8 ≤ r) (hn : n < 5) (hk : k ≤ 5) {p : Nat} (hp : p < k) :
    ∃ h', fn_Rope_tie r o (nI p) h = some (none, h') ∧ RopeAt h' r (n + 1) (fun j => upd (R j) n (O j p)) ∧ Frm h h' r 8 := by
  have c1 : ¬ (5 : Int32) ≤ nI n := nI_ge (b := 5) (by omega) (by decide)
  have hp5 : p < 5 := by omega
  rw [q_Rope_tie, rp_n hr, if_neg c1, if_neg (nI_pos (by omega)), rp_n ho, if_pos (nI_lt (by omega) (by omega))]
  rw [tie_c0 hr ho hn hp5]
  have hr1 := rp_s0 hr (upd (R 0) n (O 0 p))
  have ho1 := rp_o0 (r := r) ho hd (upd (R 0) n (O 0 p))
  rw [tie_c1 hr1 ho1 hn hp5, show ((ropU R 0 (upd (R 0) n (O 0 p)))) 1 = R 1 from rfl]
  have hr2 := rp_s1 hr1 (upd (R 1) n (O 1 p))
  have ho2 := rp_o1 (r := r) ho1 hd (upd (R 1) n (O 1 p))
  rw [tie_c2 hr2 ho2 hn hp5, show ((ropU (ropU R 0 (upd (R 0) n (O 0 p))) 1 (upd (R 1) n (O 1 p)))) 2 = R 2 from rfl]
  have hr3 := rp_s2 hr2 (upd (R 2) n (O 2 p))
  have ho3 := rp_o2 (r := r) ho2 hd (upd (R 2) n (O 2 p))
  rw [tie_c3 hr3 ho3 hn hp5, show ((ropU (ropU (ropU R 0 (upd (R 0) n (O 0 p))) 1 (upd (R 1) n (O 1 p))) 2 (upd (R 2) n (O 2 p)))) 3 = R 3 from rfl]
  have hr4 := rp_s3 hr3 (upd (R 3) n (O 3 p))
  have ho4 := rp_o3 (r := r) ho3 hd (upd (R 3) n (O 3 p))
  rw [tie_c4 hr4 ho4 hn hp5, show ((ropU (ropU (ropU (ropU R 0 (upd (R 0) n (O 0 p))) 1 (upd (R 1) n (O 1 p))) 2 (upd (R 2) n (O 2 p))) 3 (upd (R 3) n (O 3 p)))) 4 = R 4 from rfl]
  have hr5 := rp_s4 hr4 (upd (R 4) n (O 4 p))
  have ho5 := rp_o4 (r := r) ho4 hd (upd (R 4) n (O 4 p))
  rw [tie_c5 hr5 ho5 hn hp5, show ((ropU (ropU (ropU (ropU (ropU R 0 (upd (R 0) n (O 0 p))) 1 (upd (R 1) n (O 1 p))) 2 (upd (R 2) n (O 2 p))) 3 (upd (R 3) n (O 3 p))) 4 (upd (R 4) n (O 4 p)))) 5 = R 5 from rfl]
  have hr6 := rp_s5 hr5 (upd (R 5) n (O 5 p))
  have ho6 := rp_o5 (r := r) ho5 hd (upd (R 5) n (O 5 p))
  rw [tie_c6 hr6 ho6 hn hp5, show ((ropU (ropU (ropU (ropU (ropU (ropU R 0 (upd (R 0) n (O 0 p))) 1 (upd (R 1) n (O 1 p))) 2 (upd (R 2) n (O 2 p))) 3 (upd (R 3) n (O 3 p))) 4 (upd (R 4) n (O 4 p))) 5 (upd (R 5) n (O 5 p)))) 6 = R 6 from rfl]
  have hr7 := rp_s6 hr6 (upd (R 6) n (O 6 p))
  have ho7 := rp_o6 (r := r) ho6 hd (upd (R 6) n (O 6 p))
  rw [rp_n hr7, rp_pn hr7, nI_1]
  refine ⟨_, rfl, (rp_sn hr7).to (fun j hj => ?_), ?_⟩
  · rcases (show j = 0 ∨ j = 1 ∨ j = 2 ∨ j = 3 ∨ j = 4 ∨ j = 5 ∨ j = 6 by omega) with rfl | rfl | rfl | rfl | rfl | rfl | rfl <;> simp [ropU]
  · exact ((((((((Frm.set _ _ _).wide (by omega) (by omega)).trans ((Frm.set _ _ _).wide (by omega) (by omega))).trans ((Frm.set _ _ _).wide (by omega) (by omega))).trans ((Frm.set _ _ _).wide (by omega) (by omega))).trans ((Frm.set _ _ _).wide (by omega) (by omega))).trans ((Frm.set _ _ _).wide (by omega) (by omega))).trans ((Frm.set _ _ _).wide (by omega) (by omega))).trans ((Frm.set _ _ _).wide (by omega) (by omega))
/-- the rows with the first k places from the other rope's places b, b + 1 .. -/
def tieU (R O : Nat → Nat → Int32) (b k : Nat) : Nat → Nat → Int32 := fun j i => if i < k then O j (b + i) else R j i
theorem tieU_succ (R O : Nat → Nat → Int32) (b k : Nat) : (fun j => upd (tieU R O b k j) k (O j (b + k))) = tieU R O b (k + 1) := by
  funext j i
  simp only [upd, tieU]
  by_cases h1 : i = k
  · subst h1; simp
  · by_cases h2 : i < k
    · simp [h1, h2, show i < k + 1 by omega]
    · simp [h1, h2, show ¬ i < k + 1 by omega]
theorem tieU_0 (R O : Nat → Nat → Int32) (b : Nat) : tieU R O b 0 = R := by
  funext j i
  simp [tieU]
theorem s_tiePart_loop {r o k b e : Nat} {R O : Nat → Nat → Int32} (hd : r + 8 ≤ o ∨ o + 8 ≤ r) (hk : k ≤ 5) (he : e ≤ k) : ∀ (d i : Nat) (h : ab_H), b + i + d = e → RopeAt h r i (tieU R O b i) → RopeAt h o k O → ∃ h', pt_Rope_tiePart_8 r o (nI b) (nI e) (nI (b + i)) h = some (none, h') ∧ RopeAt h' r (e - b) (tieU R O b (e - b)) ∧ Frm h h' r 8 := by
  intro d
  induction d with
  | zero =>
    intro i h hi hr ho
    rw [q_Rope_tiePart_8, if_pos (nI_le (by omega) (by omega))]
    rw [show e - b = i by omega]
    exact ⟨h, rfl, hr, Frm.refl _ _ _⟩
  | succ d ih =>
    intro i h hi hr ho
    rw [q_Rope_tiePart_8, if_neg (nI_ge (by omega) (by omega)), rp_c hr]
    obtain ⟨h1, e1, hr1, f1⟩ := s_tie hr ho hd (by omega) hk (p := b + i) (by omega)
    rw [e1, cV_some, nI_1]
    rw [tieU_succ] at hr1
    obtain ⟨h2, e2, hr2, f2⟩ := ih (i + 1) h1 (by omega) hr1 (ho.frm f1 (by omega))
    exact ⟨h2, e2, hr2, f1.trans f2⟩
/-- tiePart: the other rope's places from b up to e, from place 0 on -/
theorem s_tiePart {h : ab_H} {r o n k b e : Nat} {R O : Nat → Nat → Int32} (hr : RopeAt h r n R) (ho : RopeAt h o k O) (hd : r + 8 ≤ o ∨ o + 8 ≤ r) (hk : k ≤ 5) (he : e ≤ k) (hb : b ≤ e) :
    ∃ h', fn_Rope_tiePart r o (nI b) (nI e) h = some (none, h') ∧ RopeAt h' r (e - b) (tieU R O b (e - b)) ∧ Frm h h' r 8 := by
  rw [q_Rope_tiePart, rp_pn hr]
  have hr0 : RopeAt (ab_set h r (.inr (2, [.int (nI 0), .ref (r + 1), .ref (r + 2), .ref (r + 3), .ref (r + 4), .ref (r + 5), .ref (r + 6), .ref (r + 7)]))) r 0 (tieU R O b 0) := by
    rw [tieU_0]
    exact rp_sn hr
  have ff : Frm h (ab_set h r (.inr (2, [.int (nI 0), .ref (r + 1), .ref (r + 2), .ref (r + 3), .ref (r + 4), .ref (r + 5), .ref (r + 6), .ref (r + 7)]))) r 8 := (Frm.set _ _ _).wide (by omega) (by omega)
  obtain ⟨h', e1, hr1, f1⟩ := s_tiePart_loop (b := b) hd hk he (e - b) 0 _ (by omega) hr0 (ho.frm ff (by omega))
  rw [Nat.add_zero, nI_0] at e1
  exact ⟨h', e1, hr1, ff.trans f1⟩
theorem s_ropeCopy {h : ab_H} {r o n k : Nat} {R O : Nat → Nat → Int32} (hr : RopeAt h r n R) (ho : RopeAt h o k O) (hd : r + 8 ≤ o ∨ o + 8 ≤ r) (hk : k ≤ 5) :
    ∃ h', fn_Rope_copyFrom r o h = some (none, h') ∧ RopeAt h' r k (tieU R O 0 k) ∧ Frm h h' r 8 := by
  obtain ⟨h', e1, hr1, f1⟩ := s_tiePart (b := 0) (e := k) hr ho hd hk (Nat.le_refl _) (Nat.zero_le _)
  rw [nI_0] at e1
  rw [q_Rope_copyFrom, rp_n ho, rp_c hr, e1, cV_some]
  exact ⟨h', rfl, hr1, f1⟩
