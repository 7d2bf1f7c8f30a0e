/-! Guess: the telling pitch -/
/-- of how many of the fitting stones i, i + 1 .. one says -/
def ssL (n : Nat) (Z V : Nat → Nat → Int32) (c p : Nat) (fit : Int32) : Nat → Nat → Int32 → Int32
  | 0, _, acc => acc
  | k + 1, i, acc => ssL n Z V c p fit k (i + 1) (if (fit >>> (nI i &&& 31)) &&& 1 = 1 then (if sayR n (ropU Z 3 (upd (Z 3) c (nI i))) V p = nI c then acc + 1 else acc) else acc)
theorem t_ss_loop {g s n a nn c p : Nat} {V Q N Z : Nat → Nat → Int32} (fit : Int32) (hn : n ≤ 5) (hp : p < 8) (hc : c < n) (hd : g + 9 ≤ s ∨ s + 21 ≤ g) : ∀ (k i : Nat) (acc : Int32) (x7 : Option Value) (f : Nat → Int32) (h : ab_H), i + k = 10 → (∀ x, upd f c x = upd (Z 3) c x) → GuAt h g → SG h s V n Q a nn N → RopeIs h (g + 1) n (ropU Z 3 f) → ∃ h' f', pt_Guess_stonesSaying_6 g s (nI c) fit (nI p) acc (nI i) x7 h = some (some (.int (ssL n Z V c p fit k i acc)), h') ∧ (∀ x, upd f' c x = upd (Z 3) c x) ∧ RopeIs h' (g + 1) n (ropU Z 3 f') ∧ Frm h h' (g + 1) 8 := by
  intro k
  induction k with
  | zero =>
    intro i acc x7 f h hi hf hg hs hr
    rw [q_Guess_stonesSaying_6, if_pos (show (9 : Int32) < nI i from nI_lt (a := 9) (by omega) (by omega))]
    exact ⟨h, f, rfl, hf, hr, Frm.refl _ _ _⟩
  | succ k ih =>
    intro i acc x7 f h hi hf hg hs hr
    obtain ⟨h1, e1, r1, f1⟩ := ri_a3 hr (p := c) (by omega) (nI i)
    rw [hf] at r1
    have hg1 := hg.frm f1 (by omega)
    have hs1 := hs.frm f1 (by omega)
    have go : ∀ acc x7, ∃ h' f', pt_Guess_stonesSaying_6 g s (nI c) fit (nI p) acc (nI (i + 1)) x7 h1 = some (some (.int (ssL n Z V c p fit k (i + 1) acc)), h') ∧ (∀ x, upd f' c x = upd (Z 3) c x) ∧ RopeIs h' (g + 1) n (ropU Z 3 f') ∧ Frm h h' (g + 1) 8 := by
      intro acc x7
      obtain ⟨h2, f2, e2, u2, r2, m2⟩ := ih (i + 1) acc x7 (upd (Z 3) c (nI i)) h1 (by omega) (fun x => upd_upd _ _ _ _) hg1 hs1 r1
      exact ⟨h2, f2, e2, u2, r2, f1.trans m2⟩
    rw [q_Guess_stonesSaying_6, if_neg (show ¬ (9 : Int32) < nI i from nI_nlt (a := 9) (by omega) (by decide)), gu_r hg, ri_r3 hr, e1]
    simp only [ssL]
    by_cases hb : (fit >>> (nI i &&& 31)) &&& 1 = 1
    · rw [if_pos hb, if_pos hb, q_Guess_stonesSaying_39, if_neg (show ¬ (1 : Int32) = 0 by decide), gu_r hg1, sq_w hs1.1, ri_c r1, t_sayer r1 hs1.1.2.1 hn hp, cI_some, nI_1]
      by_cases hx : sayR n (ropU Z 3 (upd (Z 3) c (nI i))) V p = nI c
      · rw [if_pos hx, if_pos hx]
        exact go _ _
      · rw [if_neg hx, if_neg hx]
        exact go _ _
    · rw [if_neg hb, if_neg hb, q_Guess_stonesSaying_39, if_pos rfl, nI_1]
      exact go _ _
def gtV (all sy : Int32) : Int32 := if sy < all - sy then all - sy else sy
/-- the first pitch that tells most -/
def tpL (S : Nat → Int32) (all : Int32) : Nat → Nat → Int32 → Int32 → Int32
  | 0, _, first, _ => first
  | k + 1, i, first, least => if least ≤ gtV all (S i) then tpL S all k (i + 1) first least else tpL S all k (i + 1) (nI i) (gtV all (S i))
theorem t_tell_loop {g s n a nn c : Nat} {V Q N Z : Nat → Nat → Int32} (fit all : Int32) (hn : n ≤ 5) (hc : c < n) (hd : g + 9 ≤ s ∨ s + 21 ≤ g) : ∀ (k i : Nat) (first least : Int32) (x8 x9 : Option Value) (f : Nat → Int32) (h : ab_H), i + k = 8 → (∀ x, upd f c x = upd (Z 3) c x) → GuAt h g → SG h s V n Q a nn N → RopeIs h (g + 1) n (ropU Z 3 f) → ∃ h', pt_Guess_tellingPitch_32 g s (nI c) fit all first least (nI i) x8 x9 h = some (some (.int (tpL (fun p => ssL n Z V c p fit 10 0 0) all k i first least)), h') ∧ RopeSh h' (g + 1) ∧ Frm h h' (g + 1) 8 := by
  intro k
  induction k with
  | zero =>
    intro i first least x8 x9 f h hi hf hg hs hr
    rw [q_Guess_tellingPitch_32, if_pos (show (8 : Int32) ≤ nI i from nI_le (a := 8) (by omega) (by omega))]
    exact ⟨h, rfl, ⟨_, _, hr⟩, Frm.refl _ _ _⟩
  | succ k ih =>
    intro i first least x8 x9 f h hi hf hg hs hr
    obtain ⟨h1, f1, e1, u1, r1, m1⟩ := t_ss_loop (p := i) fit hn (by omega) hc hd 10 0 0 none f h (by omega) hf hg hs hr
    rw [nI_0] at e1
    have hg1 := hg.frm m1 (by omega)
    have hs1 := hs.frm m1 (by omega)
    rw [q_Guess_tellingPitch_32, if_neg (show ¬ (8 : Int32) ≤ nI i from nI_ge (b := 8) (by omega) (by decide)), gu_c hg, q_Guess_stonesSaying, e1, cI_some, nI_1]
    show ∃ h', (if least ≤ gtV all (ssL n Z V c i fit 10 0 0) then _ else _) = _ ∧ _
    simp only [tpL]
    by_cases hx : least ≤ gtV all (ssL n Z V c i fit 10 0 0)
    · rw [if_pos hx, if_pos hx]
      obtain ⟨h2, e2, r2, m2⟩ := ih (i + 1) first least (some (.int (ssL n Z V c i fit 10 0 0))) (some (.int (gtV all (ssL n Z V c i fit 10 0 0)))) f1 h1 (by omega) u1 hg1 hs1 r1
      exact ⟨h2, e2, r2, m1.trans m2⟩
    · rw [if_neg hx, if_neg hx]
      obtain ⟨h2, e2, r2, m2⟩ := ih (i + 1) (nI i) (gtV all (ssL n Z V c i fit 10 0 0)) (some (.int (ssL n Z V c i fit 10 0 0))) (some (.int (gtV all (ssL n Z V c i fit 10 0 0)))) f1 h1 (by omega) u1 hg1 hs1 r1
      exact ⟨h2, e2, r2, m1.trans m2⟩
def telV (n : Nat) (Z V : Nat → Nat → Int32) (c : Nat) (fit : Int32) : Int32 := if bcE fit = 0 then -1 else tpL (fun p => ssL n Z V c p fit 10 0 0) (bcE fit) 8 0 0 (bcE fit + 1)
theorem t_telling {h : ab_H} {g s n a nn c : Nat} {V Q N : Nat → Nat → Int32} (hg : GuAt h g) (hs : SG h s V n Q a nn N) (hr : RopeSh h (g + 1)) (hn : n ≤ 5) (hN : NtOk nn N) (hc : c < n) (hd : g + 9 ≤ s ∨ s + 21 ≤ g) : ∃ h', fn_Guess_tellingPitch g s (nI c) h = some (some (.int (telV n (ropU Q 5 (bt1 0)) V c (fitL n (ropU Q 5 (bt1 0)) V N nn 3 c 10 0 0))), h') ∧ RopeSh h' (g + 1) ∧ Frm h h' (g + 1) 8 := by
  obtain ⟨h1, f1, e1, u1, r1, m1⟩ := t_fitStones hg hs hr hn hN hc hd
  have hg1 := hg.frm m1 (by omega)
  have hs1 := hs.frm m1 (by omega)
  have eb : ∀ x, fn_Int_bitCount x h1 = some (some (.int (bcE x)), h1) := fun x => q_Int_bitCount x h1
  rw [q_Guess_tellingPitch, gu_c hg, e1, cI_some, eb, cI_some]
  unfold telV
  split
  · exact ⟨h1, rfl, ⟨_, _, r1⟩, m1⟩
  · obtain ⟨h2, e2, r2, m2⟩ := t_tell_loop (Z := ropU Q 5 (bt1 0)) (fitL n (ropU Q 5 (bt1 0)) V N nn 3 c 10 0 0) (bcE (fitL n (ropU Q 5 (bt1 0)) V N nn 3 c 10 0 0)) hn hc hd 8 0 0 (bcE (fitL n (ropU Q 5 (bt1 0)) V N nn 3 c 10 0 0) + 1) none none f1 h1 (by omega) u1 hg1 hs1 r1
    rw [nI_0] at e2
    exact ⟨h2, e2, r2, m1.trans m2⟩
