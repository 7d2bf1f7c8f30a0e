/-! Guess: what one may be, by the notes -/
theorem ri_r1 {T : Type} {h : ab_H} {r n : Nat} {Q : Nat → Nat → Int32} (hr : RopeIs h r n Q) (K : Nat → Option T) : ab_gfr h r 2 2 K = K (r + 2) := by obtain ⟨R, h1, -⟩ := hr; exact rp_r1 h1 K
theorem ri_a1 {h : ab_H} {r n p : Nat} {Q : Nat → Nat → Int32} {g : Nat → Int32} (hr : RopeIs h r n (ropU Q 1 g)) (hp : p < 5) (x : Int32) : ∃ h', (∀ (T : Type) (K : ab_H → Option T), ab_iast h (r + 2) (nI p) x K = K h') ∧ RopeIs h' r n (ropU Q 1 (upd g p x)) ∧ Frm h h' r 8 := by
  obtain ⟨R, h1, h2⟩ := hr
  refine ⟨_, fun T K => iast_at h1.2.2.1 hp (by decide) x K, ⟨_, rp_s1 h1 _, fun j hj i hi => ?_⟩, (Frm.set _ _ _).wide (by omega) (by omega)⟩
  have e := h2 j hj i hi
  unfold ropU at e ⊢
  by_cases hj5 : j = 1
  · subst hj5
    simp only [if_true] at e ⊢
    simp only [upd]
    rw [e]
  · simp only [if_neg hj5] at e ⊢
    exact e
theorem ri_r3 {T : Type} {h : ab_H} {r n : Nat} {Q : Nat → Nat → Int32} (hr : RopeIs h r n Q) (K : Nat → Option T) : ab_gfr h r 2 4 K = K (r + 4) := by obtain ⟨R, h1, -⟩ := hr; exact rp_r3 h1 K
theorem ri_a3 {h : ab_H} {r n p : Nat} {Q : Nat → Nat → Int32} {g : Nat → Int32} (hr : RopeIs h r n (ropU Q 3 g)) (hp : p < 5) (x : Int32) : ∃ h', (∀ (T : Type) (K : ab_H → Option T), ab_iast h (r + 4) (nI p) x K = K h') ∧ RopeIs h' r n (ropU Q 3 (upd g p x)) ∧ Frm h h' r 8 := by
  obtain ⟨R, h1, h2⟩ := hr
  refine ⟨_, fun T K => iast_at h1.2.2.2.2.1 hp (by decide) x K, ⟨_, rp_s3 h1 _, fun j hj i hi => ?_⟩, (Frm.set _ _ _).wide (by omega) (by omega)⟩
  have e := h2 j hj i hi
  unfold ropU at e ⊢
  by_cases hj5 : j = 3
  · subst hj5
    simp only [if_true] at e ⊢
    simp only [upd]
    rw [e]
  · simp only [if_neg hj5] at e ⊢
    exact e
def GuAt (h : ab_H) (g : Nat) : Prop := ab_get h g = some (.inr (0, [.ref (g + 1)]))
theorem gu_r {T : Type} {h : ab_H} {g : Nat} (hg : GuAt h g) (K : Nat → Option T) : ab_gfr h g 0 0 K = K (g + 1) := gfr_at hg rfl K
theorem gu_c {T : Type} {h : ab_H} {g : Nat} (hg : GuAt h g) (K : Option T) : ab_ckc h g 0 K = K := ckc_at hg K
theorem GuAt.frm {h h' : ab_H} {g b m : Nat} (hg : GuAt h g) (f : Frm h h' b m) (hd : g < b ∨ b + m ≤ g) : GuAt h' g := by
  unfold GuAt
  rw [f.2 _ (by omega)]
  exact hg
/-- what a guess needs of a scene -/
def SG (h : ab_H) (s : Nat) (V : Nat → Nat → Int32) (n : Nat) (Q : Nat → Nat → Int32) (a nn : Nat) (N : Nat → Nat → Int32) : Prop := SQ h s V n Q a ∧ NotesAt h (s + 14) nn N
theorem SG.frm {h h' : ab_H} {s n a nn b m : Nat} {V Q N : Nat → Nat → Int32} (hs : SG h s V n Q a nn N) (f : Frm h h' b m) (hd : s + 21 ≤ b ∨ b + m ≤ s) : SG h' s V n Q a nn N := ⟨hs.1.frm f hd, hs.2.frm f (by omega)⟩
def NtOk (nn : Nat) (N : Nat → Nat → Int32) : Prop := nn ≤ 6 ∧ ∀ i, i < nn → ∃ p, p < 8 ∧ N 0 i = nI p
/-- whether the notes i, i + 1 .. are so -/
def soL (n : Nat) (R V N : Nat → Nat → Int32) : Nat → Nat → Int32
  | 0, _ => 1
  | k + 1, i => if sayR n R V (N 0 i).toNatClampNeg = N 1 i then soL n R V N k (i + 1) else 0
theorem t_so_loop {h : ab_H} {g s n a nn : Nat} {V Q R N : Nat → Nat → Int32} (hg : GuAt h g) (hs : SG h s V n Q a nn N) (hr : RopeIs h (g + 1) n R) (hn : n ≤ 5) (hN : NtOk nn N) : ∀ (k i : Nat), i + k = nn → pt_Guess_allNotesAreSo_2 g s (nI i) h = some (some (.int (soL n R V N k i)), h) := by
  have h6 := hN.1
  intro k
  induction k with
  | zero =>
    intro i hi
    rw [q_Guess_allNotesAreSo_2, sq_t hs.1, nt_n hs.2, if_pos (nI_le (by omega) (by omega))]
    rfl
  | succ k ih =>
    intro i hi
    obtain ⟨p, hp, ep⟩ := hN.2 i (by omega)
    rw [q_Guess_allNotesAreSo_2, sq_t hs.1, nt_n hs.2, if_neg (nI_ge (by omega) (by omega)), gu_r hg, sq_w hs.1, sq_t hs.1, nt_r0 hs.2, nt_l0 hs.2 (by omega), ep, ri_c hr, t_sayer hr hs.1.2.1 hn hp, cI_some, sq_t hs.1, nt_r1 hs.2, nt_l1 hs.2 (by omega), nI_1, ih (i + 1) (by omega)]
    simp only [soL]
    rw [ep, nI_clamp (by omega)]
    split <;> rfl
theorem t_so {h : ab_H} {g s n a nn : Nat} {V Q R N : Nat → Nat → Int32} (hg : GuAt h g) (hs : SG h s V n Q a nn N) (hr : RopeIs h (g + 1) n R) (hn : n ≤ 5) (hN : NtOk nn N) : fn_Guess_allNotesAreSo g s h = some (some (.int (soL n R V N nn 0)), h) := by
  have e := t_so_loop hg hs hr hn hN nn 0 (by omega)
  rw [nI_0] at e
  rw [q_Guess_allNotesAreSo, e]
theorem t_suppose {h : ab_H} {g s n a nn : Nat} {V Q N : Nat → Nat → Int32} (hg : GuAt h g) (hs : SG h s V n Q a nn N) (hr : RopeSh h (g + 1)) (hn : n ≤ 5) (hd : g + 9 ≤ s ∨ s + 21 ≤ g) : ∃ h', fn_Guess_suppose g s h = some (none, h') ∧ RopeIs h' (g + 1) n (ropU Q 5 (bt1 0)) ∧ Frm h h' (g + 1) 8 := by
  obtain ⟨l, P, hr⟩ := hr
  obtain ⟨h1, e1, r1, f1⟩ := t_copy hr hs.1.2.2 (by omega) hn
  have hg1 := hg.frm f1 (by omega)
  obtain ⟨h2, e2, r2, f2⟩ := t_setSags r1 hn (m := 0) (by omega)
  rw [nI_0] at e2
  refine ⟨h2, ?_, r2, f1.trans f2⟩
  rw [q_Guess_suppose, gu_r hg, sq_r hs.1, ri_c hr, e1, cV_some, gu_r hg1, ri_c r1, e2, cV_some]
/-- which of the values i, i + 1 .. of a row fit -/
def fitL (n : Nat) (Z V N : Nat → Nat → Int32) (nn j c : Nat) : Nat → Nat → Int32 → Int32
  | 0, _, acc => acc
  | k + 1, i, acc => fitL n Z V N nn j c k (i + 1) (if soL n (ropU Z j (upd (Z j) c (nI i))) V N nn 0 = 0 then acc else acc ||| (1 <<< (nI i &&& 31)))
theorem upd_upd (f : Nat → Int32) (c : Nat) (x y : Int32) : upd (upd f c x) c y = upd f c y := by
  funext i
  simp only [upd]
  split <;> rfl
theorem t_fitStones_loop {g s n a nn c : Nat} {V Q N Z : Nat → Nat → Int32} (hn : n ≤ 5) (hN : NtOk nn N) (hc : c < n) (hd : g + 9 ≤ s ∨ s + 21 ≤ g) : ∀ (k i : Nat) (acc : Int32) (f : Nat → Int32) (h : ab_H), i + k = 10 → (∀ x, upd f c x = upd (Z 3) c x) → GuAt h g → SG h s V n Q a nn N → RopeIs h (g + 1) n (ropU Z 3 f) → ∃ h' f', pt_Guess_fittingStones_10 g s (nI c) acc (nI i) h = some (some (.int (fitL n Z V N nn 3 c k i acc)), h') ∧ (∀ x, upd f' c x = upd (Z 3) c x) ∧ RopeIs h' (g + 1) n (ropU Z 3 f') ∧ Frm h h' (g + 1) 8 := by
  intro k
  induction k with
  | zero =>
    intro i acc f h hi hf hg hs hr
    rw [q_Guess_fittingStones_10, if_pos (show (9 : Int32) < nI i from nI_lt (a := 9) (by omega) (by omega))]
    exact ⟨h, f, rfl, hf, hr, Frm.refl _ _ _⟩
  | succ k ih =>
    intro i acc f h hi hf hg hs hr
    obtain ⟨h1, e1, r1, f1⟩ := ri_a3 hr (p := c) (by omega) (nI i)
    rw [hf] at r1
    have hg1 := hg.frm f1 (by omega)
    have hs1 := hs.frm f1 (by omega)
    rw [q_Guess_fittingStones_10, if_neg (show ¬ (9 : Int32) < nI i from nI_nlt (a := 9) (by omega) (by decide)), gu_r hg, ri_r3 hr, e1, gu_c hg1, t_so hg1 hs1 r1 hn hN, cI_some, nI_1]
    simp only [fitL]
    split
    · obtain ⟨h2, f2, e2, u2, r2, m2⟩ := ih (i + 1) acc (upd (Z 3) c (nI i)) h1 (by omega) (fun x => upd_upd _ _ _ _) hg1 hs1 r1
      exact ⟨h2, f2, e2, u2, r2, f1.trans m2⟩
    · obtain ⟨h2, f2, e2, u2, r2, m2⟩ := ih (i + 1) (acc ||| (1 <<< (nI i &&& 31))) (upd (Z 3) c (nI i)) h1 (by omega) (fun x => upd_upd _ _ _ _) hg1 hs1 r1
      exact ⟨h2, f2, e2, u2, r2, f1.trans m2⟩
theorem t_fitStones {h : ab_H} {g s n a nn c : Nat} {V Q N : Nat → Nat → Int32} (hg : GuAt h g) (hs : SG h s V n Q a nn N) (hr : RopeSh h (g + 1)) (hn : n ≤ 5) (hN : NtOk nn N) (hc : c < n) (hd : g + 9 ≤ s ∨ s + 21 ≤ g) : ∃ h' f', fn_Guess_fittingStones g s (nI c) h = some (some (.int (fitL n (ropU Q 5 (bt1 0)) V N nn 3 c 10 0 0)), h') ∧ (∀ x, upd f' c x = upd ((ropU Q 5 (bt1 0)) 3) c x) ∧ RopeIs h' (g + 1) n (ropU (ropU Q 5 (bt1 0)) 3 f') ∧ Frm h h' (g + 1) 8 := by
  obtain ⟨h1, e1, r1, f1⟩ := t_suppose hg hs hr hn hd
  have hg1 := hg.frm f1 (by omega)
  obtain ⟨h2, f2, e2, u2, r2, m2⟩ := t_fitStones_loop (Z := ropU Q 5 (bt1 0)) hn hN hc hd 10 0 0 ((ropU Q 5 (bt1 0)) 3) h1 (by omega) (fun _ => rfl) hg1 (hs.frm f1 (by omega)) (by rw [ropU_self]; exact r1)
  rw [nI_0] at e2
  refine ⟨h2, f2, ?_, u2, r2, f1.trans m2⟩
  rw [q_Guess_fittingStones, gu_c hg, e1, cV_some, e2]
theorem t_fitKinds_loop {g s n a nn c : Nat} {V Q N Z : Nat → Nat → Int32} (hn : n ≤ 5) (hN : NtOk nn N) (hc : c < n) (hd : g + 9 ≤ s ∨ s + 21 ≤ g) : ∀ (k i : Nat) (acc : Int32) (f : Nat → Int32) (h : ab_H), i + k = 6 → (∀ x, upd f c x = upd (Z 1) c x) → GuAt h g → SG h s V n Q a nn N → RopeIs h (g + 1) n (ropU Z 1 f) → ∃ h' f', pt_Guess_fittingKinds_10 g s (nI c) acc (nI i) h = some (some (.int (fitL n Z V N nn 1 c k i acc)), h') ∧ (∀ x, upd f' c x = upd (Z 1) c x) ∧ RopeIs h' (g + 1) n (ropU Z 1 f') ∧ Frm h h' (g + 1) 8 := by
  intro k
  induction k with
  | zero =>
    intro i acc f h hi hf hg hs hr
    rw [q_Guess_fittingKinds_10, if_pos (show (5 : Int32) < nI i from nI_lt (a := 5) (by omega) (by omega))]
    exact ⟨h, f, rfl, hf, hr, Frm.refl _ _ _⟩
  | succ k ih =>
    intro i acc f h hi hf hg hs hr
    obtain ⟨h1, e1, r1, f1⟩ := ri_a1 hr (p := c) (by omega) (nI i)
    rw [hf] at r1
    have hg1 := hg.frm f1 (by omega)
    have hs1 := hs.frm f1 (by omega)
    rw [q_Guess_fittingKinds_10, if_neg (show ¬ (5 : Int32) < nI i from nI_nlt (a := 5) (by omega) (by decide)), gu_r hg, ri_r1 hr, e1, gu_c hg1, t_so hg1 hs1 r1 hn hN, cI_some, nI_1]
    simp only [fitL]
    split
    · obtain ⟨h2, f2, e2, u2, r2, m2⟩ := ih (i + 1) acc (upd (Z 1) c (nI i)) h1 (by omega) (fun x => upd_upd _ _ _ _) hg1 hs1 r1
      exact ⟨h2, f2, e2, u2, r2, f1.trans m2⟩
    · obtain ⟨h2, f2, e2, u2, r2, m2⟩ := ih (i + 1) (acc ||| (1 <<< (nI i &&& 31))) (upd (Z 1) c (nI i)) h1 (by omega) (fun x => upd_upd _ _ _ _) hg1 hs1 r1
      exact ⟨h2, f2, e2, u2, r2, f1.trans m2⟩
theorem t_fitKinds {h : ab_H} {g s n a nn c : Nat} {V Q N : Nat → Nat → Int32} (hg : GuAt h g) (hs : SG h s V n Q a nn N) (hr : RopeSh h (g + 1)) (hn : n ≤ 5) (hN : NtOk nn N) (hc : c < n) (hd : g + 9 ≤ s ∨ s + 21 ≤ g) : ∃ h' f', fn_Guess_fittingKinds g s (nI c) h = some (some (.int (fitL n (ropU Q 5 (bt1 0)) V N nn 1 c 6 0 0)), h') ∧ (∀ x, upd f' c x = upd ((ropU Q 5 (bt1 0)) 1) c x) ∧ RopeIs h' (g + 1) n (ropU (ropU Q 5 (bt1 0)) 1 f') ∧ Frm h h' (g + 1) 8 := by
  obtain ⟨h1, e1, r1, f1⟩ := t_suppose hg hs hr hn hd
  have hg1 := hg.frm f1 (by omega)
  obtain ⟨h2, f2, e2, u2, r2, m2⟩ := t_fitKinds_loop (Z := ropU Q 5 (bt1 0)) hn hN hc hd 6 0 0 ((ropU Q 5 (bt1 0)) 1) h1 (by omega) (fun _ => rfl) hg1 (hs.frm f1 (by omega)) (by rw [ropU_self]; exact r1)
  rw [nI_0] at e2
  refine ⟨h2, f2, ?_, u2, r2, f1.trans m2⟩
  rw [q_Guess_fittingKinds, gu_c hg, e1, cV_some, e2]
