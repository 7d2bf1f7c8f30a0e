/-! Voices: slips, pairs at rest -/
def adn (m k : Nat) : Nat := m ^^^ (m &&& k)
theorem adn_i : ∀ m, m < 32 → ∀ k, k < 32 → nI m &&& (nI k ^^^ -1) = nI (adn m k) := by decide +kernel
theorem adn_lt : ∀ m, m < 32 → ∀ k, k < 32 → adn m k < 32 := by decide +kernel
theorem t_restBits {h : ab_H} {r n m : Nat} {Q : Nat → Nat → Int32} (hr : RopeIs h r n Q) (hn : n ≤ 5) (hm : m < 2 ^ n) (hb : ∀ i, i < n → Q 6 i = bt1 m i) : fn_Rope_restBits r h = some (some (.int (nI m)), h) := by
  obtain ⟨R, h1, h2⟩ := hr
  exact s_restBits h1 hn hm (fun i hi => (h2 6 (by decide) i hi).trans (hb i hi))
theorem t_sagBits {h : ab_H} {r n m : Nat} {Q : Nat → Nat → Int32} (hr : RopeIs h r n Q) (hn : n ≤ 5) (hm : m < 2 ^ n) (hb : ∀ i, i < n → Q 5 i = bt1 m i) : fn_Rope_sagBits r h = some (some (.int (nI m)), h) := by
  obtain ⟨R, h1, h2⟩ := hr
  exact s_sagBits h1 hn hm (fun i hi => (h2 5 (by decide) i hi).trans (hb i hi))
/-- in how many like cases just these slip -/
def sliL (s : Nat) (c : Int32) : Nat → Nat → Int64 → Int64
  | 0, _, acc => acc
  | k + 1, i, acc => sliL s c k (i + 1) (if bt1 s i = 1 then acc * Int32.toInt64 c else acc * Int32.toInt64 (10 - c))
theorem t_slips_loop {h : ab_H} {v n m : Nat} {Q : Nat → Nat → Int32} (c : Int32) (hv : VoAt h v) (hr : RopeIs h (v + 1) n Q) (hn : n ≤ 5) (hm : m < 32) : ∀ (k i : Nat) (acc : Int64), i + k = n → pt_Voices_casesOfSlips_5 v (nI m) c acc (nI i) h = some (some (.long (sliL m c k i acc)), h) := by
  intro k
  induction k with
  | zero =>
    intro i acc hi
    rw [q_Voices_casesOfSlips_5, vo_r hv, ri_n hr, if_pos (nI_le (by omega) (by omega))]
    rfl
  | succ k ih =>
    intro i acc hi
    rw [q_Voices_casesOfSlips_5, vo_r hv, ri_n hr, if_neg (nI_ge (by omega) (by omega)), bt_shr m (by omega) i (by omega), nI_1]
    simp only [sliL]
    split
    · exact ih (i + 1) _ (by omega)
    · exact ih (i + 1) _ (by omega)
/-- in how many like cases one says -/
def casL (n m : Nat) (Q V : Nat → Nat → Int32) (a : Nat) (x c : Int32) : Nat → Nat → Int64 → Int64
  | 0, _, acc => acc
  | k + 1, i, acc => casL n m Q V a x c k (i + 1) (if sayR n (ropU Q 6 (bt1 (adn m i))) V a = x then acc + sliL i c n 0 1 else acc)
theorem t_cases_loop {v s n a m : Nat} {V Q : Nat → Nat → Int32} (x c : Int32) (hn : n ≤ 5) (ha : a < 8) (hm : m < 32) (hd : v + 9 ≤ s ∨ s + 21 ≤ v) : ∀ (k i : Nat) (acc : Int64) (g : Nat → Int32) (h : ab_H), i + k = 2 ^ n → VoAt h v → SQ h s V n Q a → RopeIs h (v + 1) n (ropU Q 6 g) → ∃ h', pt_Voices_casesOf_37 v s x c (nI m) acc (nI i) h = some (some (.long (casL n m Q V a x c k i acc)), h') ∧ RopeSh h' (v + 1) ∧ Frm h h' (v + 1) 8 := by
  have h32 := pow_le32 hn
  intro k
  induction k with
  | zero =>
    intro i acc g h hi hv hs hr
    rw [q_Voices_casesOf_37, vo_r hv, ri_n hr, shl_pow n hn, if_pos (nI_le (by omega) (by omega))]
    exact ⟨h, rfl, ⟨_, _, hr⟩, Frm.refl _ _ _⟩
  | succ k ih =>
    intro i acc g h hi hv hs hr
    obtain ⟨h1, e1, r1, f1⟩ := t_setRests hr hn (m := adn m i) (by have := adn_lt m hm i (by omega); omega)
    rw [ropU_ropU] at r1
    have hv1 := hv.frm f1 (by omega)
    have hs1 := hs.frm f1 (by omega)
    rw [q_Voices_casesOf_37, vo_r hv, ri_n hr, shl_pow n hn, if_neg (nI_ge (by omega) (by omega)), vo_r hv, ri_c hr, adn_i m hm i (by omega), e1, cV_some, vo_r hv1, sq_w hs1, sq_a hs1, ri_c r1, t_sayer r1 hs1.2.1 hn ha, cI_some, nI_1]
    simp only [casL]
    by_cases hx : sayR n (ropU Q 6 (bt1 (adn m i))) V a = x
    · rw [if_pos hx, if_pos hx, vo_c hv1, q_Voices_casesOfSlips, ← nI_0, t_slips_loop c hv1 r1 hn (m := i) (by omega) n 0 1 (by omega), cL_some]
      obtain ⟨h2, e2, r2, f2⟩ := ih (i + 1) (acc + sliL i c n 0 1) (bt1 (adn m i)) h1 (by omega) hv1 hs1 r1
      exact ⟨h2, e2, r2, f1.trans f2⟩
    · rw [if_neg hx, if_neg hx]
      obtain ⟨h2, e2, r2, f2⟩ := ih (i + 1) acc (bt1 (adn m i)) h1 (by omega) hv1 hs1 r1
      exact ⟨h2, e2, r2, f1.trans f2⟩
theorem t_casesOf {h : ab_H} {v s n a m : Nat} {V Q : Nat → Nat → Int32} (x c : Int32) (hv : VoAt h v) (hr : RopeSh h (v + 1)) (hs : SQ h s V n Q a) (hn : n ≤ 5) (ha : a < 8) (hm : m < 2 ^ n) (hb : ∀ i, i < n → Q 6 i = bt1 m i) (hd : v + 9 ≤ s ∨ s + 21 ≤ v) : ∃ h', fn_Voices_casesOf v s x c h = some (some (.long (casL n m Q V a x c (2 ^ n) 0 0)), h') ∧ RopeSh h' (v + 1) ∧ Frm h h' (v + 1) 8 := by
  have h32 := pow_le32 hn
  obtain ⟨l, P, hr⟩ := hr
  obtain ⟨h1, e1, r1, f1⟩ := t_copy hr hs.2.2 (by omega) hn
  have hs1 := hs.frm f1 (by omega)
  rw [q_Voices_casesOf, sq_a hs, if_pos (show nI a < (8 : Int32) from nI_lt (b := 8) ha (by decide)), vo_r hv, sq_r hs, ri_c hr, e1, cV_some, sq_r hs1, ri_c hs1.2.2, t_restBits hs1.2.2 hn hm hb, cI_some]
  obtain ⟨h2, e2, r2, f2⟩ := t_cases_loop x c hn ha (m := m) (by omega) hd (2 ^ n) 0 0 (Q 6) h1 (by omega) (hv.frm f1 (by omega)) hs1 (by rw [ropU_self]; exact r1)
  rw [nI_0] at e2
  exact ⟨h2, e2, r2, f1.trans f2⟩
/-- one sag set by hand -/
theorem ri_r5 {T : Type} {h : ab_H} {r n : Nat} {Q : Nat → Nat → Int32} (hr : RopeIs h r n Q) (K : Nat → Option T) : ab_gfr h r 2 6 K = K (r + 6) := by obtain ⟨R, h1, -⟩ := hr; exact rp_r5 h1 K
theorem ri_a5 {h : ab_H} {r n p : Nat} {Q : Nat → Nat → Int32} {g : Nat → Int32} (hr : RopeIs h r n (ropU Q 5 g)) (hp : p < 5) (x : Int32) : ∃ h', (∀ (T : Type) (K : ab_H → Option T), ab_iast h (r + 6) (nI p) x K = K h') ∧ RopeIs h' r n (ropU Q 5 (upd g p x)) ∧ Frm h h' r 8 := by
  obtain ⟨R, h1, h2⟩ := hr
  refine ⟨_, fun T K => iast_at h1.2.2.2.2.2.2.1 hp (by decide) x K, ⟨_, rope_set5 h1 _, fun j hj i hi => ?_⟩, (Frm.set _ _ _).wide (by omega) (by omega)⟩
  have e := h2 j hj i hi
  unfold ropU at e ⊢
  by_cases hj5 : j = 5
  · subst hj5
    simp only [if_true] at e ⊢
    simp only [upd]
    rw [e]
  · simp only [if_neg hj5] at e ⊢
    exact e
def prG (g : Nat → Int32) (a b : Nat) (k : Nat) : Nat → Int32 := upd (upd g a (nI k &&& 1)) b (nI k >>> ((1 : Int32) &&& 31))
theorem prG_prG (g : Nat → Int32) (a b k l : Nat) : prG (prG g a b k) a b l = prG g a b l := by
  funext i
  simp only [prG, upd]
  split
  · rfl
  · split <;> rfl
