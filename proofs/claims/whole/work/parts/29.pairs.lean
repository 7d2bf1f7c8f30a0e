/-! Voices: the pairs at rest -/
/-- of which of the pairs i, i + 1 .. (k of them) one says -/
def wsL (S : Nat → Int32) (x : Int32) : Nat → Nat → Int32 → Int32
  | 0, _, acc => acc
  | k + 1, i, acc => wsL S x k (i + 1) (acc ||| (if S i = x then (1 <<< (nI i &&& 31)) else 0))
def gnV (w x y : Int32) : Int32 := if (w >>> (x &&& 31)) &&& 1 = 0 then (if (w >>> (y &&& 31)) &&& 1 = 1 then 1 else 0) else 0
theorem t_gains (w x y : Int32) (h : ab_H) : fn_Voices_gains w x y h = some (some (.int (gnV w x y)), h) := by
  rw [q_Voices_gains]
  unfold gnV
  split
  · split <;> rfl
  · rfl
def prL (wa wb : Int32) : Nat → Nat → Int32 → Int32
  | 0, _, acc => acc
  | k + 1, i, acc => prL wa wb k (i + 1) (if gnV wa (nI i) (nI i ^^^ 1) = 0 then (if gnV wb (nI i) (nI i ^^^ 2) = 0 then acc ||| (1 <<< (nI i &&& 31)) else acc) else acc)
theorem t_pairs_end (v s : Nat) (x y wa wb : Int32) (h : ab_H) : ∀ (k i : Nat) (acc : Int32), i + k = 4 → pt_Voices_restingPairs_130 v s x y wa wb acc (nI i) h = some (some (.int (prL wa wb k i acc)), h) := by
  intro k
  induction k with
  | zero =>
    intro i acc hi
    rw [q_Voices_restingPairs_130, if_pos (show (4 : Int32) ≤ nI i from nI_le (a := 4) (by omega) (by omega))]
    rfl
  | succ k ih =>
    intro i acc hi
    rw [q_Voices_restingPairs_130, if_neg (show ¬ (4 : Int32) ≤ nI i from nI_ge (b := 4) (by omega) (by decide)), t_gains, cI_some, t_gains, cI_some, nI_1, ih (i + 1) _ (by omega), ih (i + 1) _ (by omega)]
    simp only [prL]
    split
    · split <;> rfl
    · rfl
theorem t_pairs_loop {v s n a p q : Nat} {V Q : Nat → Nat → Int32} (hn : n ≤ 5) (ha : a < 8) (hp : p < n) (hq : q < n) (hd : v + 9 ≤ s ∨ s + 21 ≤ v) : ∀ (k i : Nat) (oa ob : Int32) (x7 : Option Value) (g : Nat → Int32) (h : ab_H), i + k = 4 → (∀ l, prG g p q l = prG (Q 5) p q l) → VoAt h v → SQ h s V n Q a → RopeIs h (v + 1) n (ropU Q 5 g) → ∃ h', pt_Voices_restingPairs_31 v s (nI p) (nI q) oa ob (nI i) x7 h = some (some (.int (prL (wsL (fun l => sayR n (ropU Q 5 (prG (Q 5) p q l)) V a) (nI p) k i oa) (wsL (fun l => sayR n (ropU Q 5 (prG (Q 5) p q l)) V a) (nI q) k i ob) 4 0 0)), h') ∧ RopeSh h' (v + 1) ∧ Frm h h' (v + 1) 8 := by
  intro k
  induction k with
  | zero =>
    intro i oa ob x7 g h hi hg hv hs hr
    rw [q_Voices_restingPairs_31, if_pos (show (4 : Int32) ≤ nI i from nI_le (a := 4) (by omega) (by omega)), ← nI_0, t_pairs_end v s _ _ _ _ h 4 0 _ (by omega)]
    exact ⟨h, rfl, ⟨_, _, hr⟩, Frm.refl _ _ _⟩
  | succ k ih =>
    intro i oa ob x7 g h hi hg hv hs hr
    obtain ⟨h1, e1, r1, f1⟩ := ri_a5 hr (p := p) (by omega) (nI i &&& 1)
    have hv1 := hv.frm f1 (by omega)
    obtain ⟨h2, e2, r2, f2⟩ := ri_a5 r1 (p := q) (by omega) (nI i >>> ((1 : Int32) &&& 31))
    have hv2 := hv1.frm f2 (by omega)
    have hs2 := (hs.frm f1 (by omega)).frm f2 (by omega)
    have f := f1.trans f2
    have r3 : RopeIs h2 (v + 1) n (ropU Q 5 (prG (Q 5) p q i)) := by rw [← hg i]; exact r2
    rw [q_Voices_restingPairs_31, if_neg (show ¬ (4 : Int32) ≤ nI i from nI_ge (b := 4) (by omega) (by decide)), vo_r hv, ri_r5 hr, e1, vo_r hv1, ri_r5 r1, e2, vo_r hv2, sq_w hs2, sq_a hs2, ri_c r3, t_sayer r3 hs2.2.1 hn ha, cI_some, q_Voices_restingPairs_96, q_Voices_restingPairs_96, nI_1]
    simp only [wsL]
    have go : ∀ oa ob x7, ∃ h', pt_Voices_restingPairs_31 v s (nI p) (nI q) oa ob (nI (i + 1)) x7 h2 = some (some (.int (prL (wsL (fun l => sayR n (ropU Q 5 (prG (Q 5) p q l)) V a) (nI p) k (i + 1) oa) (wsL (fun l => sayR n (ropU Q 5 (prG (Q 5) p q l)) V a) (nI q) k (i + 1) ob) 4 0 0)), h') ∧ RopeSh h' (v + 1) ∧ Frm h h' (v + 1) 8 := by
      intro oa ob x7
      obtain ⟨h4, e4, r4, f4⟩ := ih (i + 1) oa ob x7 (prG (Q 5) p q i) h2 (by omega) (fun l => prG_prG _ _ _ _ _) hv2 hs2 r3
      exact ⟨h4, e4, r4, f.trans f4⟩
    split
    · split
      · exact go _ _ _
      · exact go _ _ _
    · split
      · exact go _ _ _
      · exact go _ _ _
def rstV (n : Nat) (Q V : Nat → Nat → Int32) (a p q : Nat) : Int32 := prL (wsL (fun l => sayR n (ropU Q 5 (prG (Q 5) p q l)) V a) (nI p) 4 0 0) (wsL (fun l => sayR n (ropU Q 5 (prG (Q 5) p q l)) V a) (nI q) 4 0 0) 4 0 0
theorem t_resting {h : ab_H} {v s n a p q : Nat} {V Q : Nat → Nat → Int32} (hv : VoAt h v) (hr : RopeSh h (v + 1)) (hs : SQ h s V n Q a) (hn : n ≤ 5) (ha : a < 8) (hp : p < n) (hq : q < n) (hd : v + 9 ≤ s ∨ s + 21 ≤ v) : ∃ h', fn_Voices_restingPairs v s (nI p) (nI q) h = some (some (.int (rstV n Q V a p q)), h') ∧ RopeSh h' (v + 1) ∧ Frm h h' (v + 1) 8 := by
  obtain ⟨l, P, hr⟩ := hr
  obtain ⟨h1, e1, r1, f1⟩ := t_copy hr hs.2.2 (by omega) hn
  rw [q_Voices_restingPairs, sq_a hs, if_pos (show nI a < (8 : Int32) from nI_lt (b := 8) ha (by decide)), vo_r hv, sq_r hs, ri_c hr, e1, cV_some]
  obtain ⟨h2, e2, r2, f2⟩ := t_pairs_loop hn ha hp hq hd 4 0 0 0 none (Q 5) h1 (by omega) (fun _ => rfl) (hv.frm f1 (by omega)) (hs.frm f1 (by omega)) (by rw [ropU_self]; exact r1)
  rw [nI_0] at e2
  exact ⟨h2, e2, r2, f1.trans f2⟩
