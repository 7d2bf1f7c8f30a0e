/-! Voices: what all sags give, what one never has, a part of the rope -/
def RopeSh (h : ab_H) (r : Nat) : Prop := ∃ n Q, RopeIs h r n Q
theorem RopeSh.frm {h h' : ab_H} {r a m : Nat} (hr : RopeSh h r) (f : Frm h h' a m) (hd : r + 8 ≤ a ∨ a + m ≤ r) : RopeSh h' r := by
  obtain ⟨n, Q, h1⟩ := hr
  exact ⟨n, Q, h1.frm f hd⟩
/-- what a question needs of a scene -/
def SQ (h : ab_H) (s : Nat) (V : Nat → Nat → Int32) (n : Nat) (Q : Nat → Nat → Int32) (a : Nat) : Prop :=
  ab_get h s = some (.inr (3, [.ref (s + 1), .ref (s + 6), .ref (s + 14), .ref (s + 17), .int (nI a)])) ∧ WallIs h (s + 1) V ∧ RopeIs h (s + 6) n Q
theorem SQ.frm {h h' : ab_H} {s n a b m : Nat} {V Q : Nat → Nat → Int32} (hs : SQ h s V n Q a) (f : Frm h h' b m) (hd : s + 21 ≤ b ∨ b + m ≤ s) : SQ h' s V n Q a :=
  ⟨by rw [f.2 _ (by omega)]; exact hs.1, hs.2.1.frm f (by omega), hs.2.2.frm f (by omega)⟩
section
variable {T : Type} {h : ab_H} {s n a : Nat} {V Q : Nat → Nat → Int32}
theorem sq_w (hs : SQ h s V n Q a) (K : Nat → Option T) : ab_gfr h s 3 0 K = K (s + 1) := gfr_at hs.1 rfl K
theorem sq_r (hs : SQ h s V n Q a) (K : Nat → Option T) : ab_gfr h s 3 1 K = K (s + 6) := gfr_at hs.1 rfl K
theorem sq_t (hs : SQ h s V n Q a) (K : Nat → Option T) : ab_gfr h s 3 2 K = K (s + 14) := gfr_at hs.1 rfl K
theorem sq_a (hs : SQ h s V n Q a) (K : Int32 → Option T) : ab_gfi h s 3 4 K = K (nI a) := gfi_at hs.1 rfl K
end
def VoAt (h : ab_H) (v : Nat) : Prop := ab_get h v = some (.inr (7, [.ref (v + 1)]))
theorem vo_r {T : Type} {h : ab_H} {v : Nat} (hv : VoAt h v) (K : Nat → Option T) : ab_gfr h v 7 0 K = K (v + 1) := gfr_at hv rfl K
theorem vo_c {T : Type} {h : ab_H} {v : Nat} (hv : VoAt h v) (K : Option T) : ab_ckc h v 7 K = K := ckc_at hv K
theorem VoAt.frm {h h' : ab_H} {v b m : Nat} (hv : VoAt h v) (f : Frm h h' b m) (hd : v < b ∨ b + m ≤ v) : VoAt h' v := by
  unfold VoAt
  rw [f.2 _ (by omega)]
  exact hv
theorem ropU_ropU (Q : Nat → Nat → Int32) (j : Nat) (f g : Nat → Int32) : ropU (ropU Q j f) j g = ropU Q j g := by
  funext i
  unfold ropU
  split <;> rfl
theorem ropU_self (Q : Nat → Nat → Int32) (j : Nat) : ropU Q j (Q j) = Q := by
  funext i
  unfold ropU
  split
  · rename_i h; rw [h]
  · rfl
theorem shl_pow : ∀ n, n ≤ 5 → (1 : Int32) <<< (nI n &&& 31) = nI (2 ^ n) := by decide +kernel
/-- bits of the answers i, i + 1 .., k of them -/
def orL (g : Nat → Int32) : Nat → Nat → Int32 → Int32
  | 0, _, acc => acc
  | k + 1, i, acc => orL g k (i + 1) (if g i = -1 then acc else acc ||| (1 <<< (g i &&& 31)))
/-- who can say at a pitch, by some set that sags -/
def canV (n : Nat) (Q V : Nat → Nat → Int32) (p : Nat) : Int32 := orL (fun m => sayR n (ropU Q 5 (bt1 m)) V p) (2 ^ n) 0 0
theorem t_ofAll_loop {v s n a p : Nat} {V Q : Nat → Nat → Int32} (hn : n ≤ 5) (hp : p < 8) (hd : v + 9 ≤ s ∨ s + 21 ≤ v) : ∀ (k i : Nat) (acc : Int32) (x5 : Option Value) (g : Nat → Int32) (h : ab_H), i + k = 2 ^ n → VoAt h v → SQ h s V n Q a → RopeIs h (v + 1) n (ropU Q 5 g) → ∃ h', pt_Voices_ofAllSags_16 v s (nI p) acc (nI i) x5 h = some (some (.int (orL (fun m => sayR n (ropU Q 5 (bt1 m)) V p) k i acc)), h') ∧ RopeSh h' (v + 1) ∧ Frm h h' (v + 1) 8 := by
  have h32 := pow_le32 hn
  intro k
  induction k with
  | zero =>
    intro i acc x5 g h hi hv hs hr
    rw [q_Voices_ofAllSags_16, vo_r hv, ri_n hr, shl_pow n hn, if_pos (nI_le (by omega) (by omega))]
    exact ⟨h, rfl, ⟨_, _, hr⟩, Frm.refl _ _ _⟩
  | succ k ih =>
    intro i acc x5 g h hi hv hs hr
    obtain ⟨h1, e1, r1, f1⟩ := t_setSags hr hn (m := i) (by omega)
    rw [ropU_ropU] at r1
    have hv1 := hv.frm f1 (by omega)
    have hs1 := hs.frm f1 (by omega)
    rw [q_Voices_ofAllSags_16, vo_r hv, ri_n hr, shl_pow n hn, if_neg (nI_ge (by omega) (by omega)), vo_r hv, ri_c hr, e1, cV_some, vo_r hv1, sq_w hs1, ri_c r1, t_sayer r1 hs1.2.1 hn hp, cI_some, nI_1]
    simp only [orL]
    split
    · obtain ⟨h2, e2, r2, f2⟩ := ih (i + 1) acc (some (.int (sayR n (ropU Q 5 (bt1 i)) V p))) (bt1 i) h1 (by omega) hv1 hs1 r1
      exact ⟨h2, e2, r2, f1.trans f2⟩
    · obtain ⟨h2, e2, r2, f2⟩ := ih (i + 1) (acc ||| (1 <<< (sayR n (ropU Q 5 (bt1 i)) V p &&& 31))) (some (.int (sayR n (ropU Q 5 (bt1 i)) V p))) (bt1 i) h1 (by omega) hv1 hs1 r1
      exact ⟨h2, e2, r2, f1.trans f2⟩
theorem t_ofAll {h : ab_H} {v s n a p : Nat} {V Q : Nat → Nat → Int32} (hv : VoAt h v) (hr : RopeSh h (v + 1)) (hs : SQ h s V n Q a) (hn : n ≤ 5) (hp : p < 8) (hd : v + 9 ≤ s ∨ s + 21 ≤ v) : ∃ h', fn_Voices_ofAllSags v s (nI p) h = some (some (.int (canV n Q V p)), h') ∧ RopeSh h' (v + 1) ∧ Frm h h' (v + 1) 8 := by
  obtain ⟨m, P, hr⟩ := hr
  obtain ⟨h1, e1, r1, f1⟩ := t_copy hr hs.2.2 (by omega) hn
  rw [q_Voices_ofAllSags, vo_r hv, sq_r hs, ri_c hr, e1, cV_some]
  obtain ⟨h2, e2, r2, f2⟩ := t_ofAll_loop hn hp hd (2 ^ n) 0 0 none (Q 5) h1 (by omega) (hv.frm f1 (by omega)) (hs.frm f1 (by omega)) (by rw [ropU_self]; exact r1)
  rw [nI_0] at e2
  exact ⟨h2, e2, r2, f1.trans f2⟩
/-- the pitches at which one never says -/
def nevL (g : Nat → Int32) (c : Nat) : Nat → Nat → Int32 → Int32
  | 0, _, acc => acc
  | k + 1, i, acc => nevL g c k (i + 1) (if (g i >>> (nI c &&& 31)) &&& 1 = 0 then acc ||| (1 <<< (nI i &&& 31)) else acc)
def nevV (n : Nat) (Q V : Nat → Nat → Int32) (c : Nat) : Int32 := nevL (canV n Q V) c 8 0 0
theorem t_never_loop {v s n a c : Nat} {V Q : Nat → Nat → Int32} (hn : n ≤ 5) (hd : v + 9 ≤ s ∨ s + 21 ≤ v) : ∀ (k i : Nat) (acc : Int32) (h : ab_H), i + k = 8 → VoAt h v → RopeSh h (v + 1) → SQ h s V n Q a → ∃ h', pt_Voices_neverOf_5 v s (nI c) acc (nI i) h = some (some (.int (nevL (canV n Q V) c k i acc)), h') ∧ RopeSh h' (v + 1) ∧ Frm h h' (v + 1) 8 := by
  intro k
  induction k with
  | zero =>
    intro i acc h hi hv hr hs
    rw [q_Voices_neverOf_5, if_pos (show (8 : Int32) ≤ nI i from nI_le (a := 8) (by omega) (by omega))]
    exact ⟨h, rfl, hr, Frm.refl _ _ _⟩
  | succ k ih =>
    intro i acc h hi hv hr hs
    obtain ⟨h1, e1, r1, f1⟩ := t_ofAll hv hr hs hn (p := i) (by omega) hd
    rw [q_Voices_neverOf_5, if_neg (show ¬ (8 : Int32) ≤ nI i from nI_ge (b := 8) (by omega) (by decide)), vo_c hv, e1, cI_some, nI_1]
    simp only [nevL]
    split
    · obtain ⟨h2, e2, r2, f2⟩ := ih (i + 1) (acc ||| (1 <<< (nI i &&& 31))) h1 (by omega) (hv.frm f1 (by omega)) r1 (hs.frm f1 (by omega))
      exact ⟨h2, e2, r2, f1.trans f2⟩
    · obtain ⟨h2, e2, r2, f2⟩ := ih (i + 1) acc h1 (by omega) (hv.frm f1 (by omega)) r1 (hs.frm f1 (by omega))
      exact ⟨h2, e2, r2, f1.trans f2⟩
theorem t_never {h : ab_H} {v s n a c : Nat} {V Q : Nat → Nat → Int32} (hv : VoAt h v) (hr : RopeSh h (v + 1)) (hs : SQ h s V n Q a) (hn : n ≤ 5) (hd : v + 9 ≤ s ∨ s + 21 ≤ v) : ∃ h', fn_Voices_neverOf v s (nI c) h = some (some (.int (nevV n Q V c)), h') ∧ RopeSh h' (v + 1) ∧ Frm h h' (v + 1) 8 := by
  obtain ⟨h2, e2, r2, f2⟩ := t_never_loop (c := c) hn hd 8 0 0 h (by omega) hv hr hs
  rw [nI_0] at e2
  rw [q_Voices_neverOf]
  exact ⟨h2, e2, r2, f2⟩
theorem t_ofPart {h : ab_H} {v s n a b e : Nat} {V Q : Nat → Nat → Int32} (hv : VoAt h v) (hr : RopeSh h (v + 1)) (hs : SQ h s V n Q a) (hn : n ≤ 5) (ha : a < 8) (he : e ≤ n) (hb : b ≤ e) (hd : v + 9 ≤ s ∨ s + 21 ≤ v) : ∃ h', fn_Voices_ofPart v s (nI b) (nI e) h = some (some (.int (sayR (e - b) (fun j i => Q j (b + i)) V a)), h') ∧ RopeSh h' (v + 1) ∧ Frm h h' (v + 1) 8 := by
  obtain ⟨m, P, hr⟩ := hr
  obtain ⟨h1, e1, r1, f1⟩ := t_tiePart hr hs.2.2 (by omega) hn he hb
  have hv1 := hv.frm f1 (by omega)
  have hs1 := hs.frm f1 (by omega)
  rw [q_Voices_ofPart, sq_a hs, if_pos (show nI a < (8 : Int32) from nI_lt (b := 8) ha (by decide)), vo_r hv, sq_r hs, ri_c hr, e1, cV_some, vo_r hv1, sq_w hs1, sq_a hs1, ri_c r1, t_sayer r1 hs1.2.1 (by omega) ha, cI_some]
  exact ⟨h1, rfl, ⟨_, _, r1⟩, f1⟩
