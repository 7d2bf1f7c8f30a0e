/-! Tying: how often one says by an order -/
theorem t_tie {h : ab_H} {r o n k p : Nat} {A B O : Nat → Nat → Int32} (hr : RopeIs h r k A) (ho : RopeIs h o n O) (hd : r + 8 ≤ o ∨ o + 8 ≤ r) (hk : k < 5) (hn : n ≤ 5) (hp : p < n) (hA : ∀ j, j < 7 → ∀ i, i < k → A j i = B j i) (hB : ∀ j, j < 7 → B j k = O j p) : ∃ h', fn_Rope_tie r o (nI p) h = some (none, h') ∧ RopeIs h' r (k + 1) B ∧ Frm h h' r 8 := by
  obtain ⟨R, h1, h2⟩ := hr
  obtain ⟨P, o1, o2⟩ := ho
  obtain ⟨h', e1, r1, f1⟩ := s_tie h1 o1 hd hk hn hp
  refine ⟨h', e1, ⟨_, r1, fun j hj i hi => ?_⟩, f1⟩
  simp only [upd]
  by_cases hik : i = k
  · rw [if_pos hik, hik, hB j hj]
    exact o2 j hj p hp
  · rw [if_neg hik, ← hA j hj i (by omega)]
    exact h2 j hj i (by omega)
theorem t_none {h : ab_H} {r n : Nat} {A : Nat → Nat → Int32} (hr : RopeIs h r n A) (B : Nat → Nat → Int32) : ∃ h', (∀ (T : Type) (K : ab_H → Option T), ab_pf h r 2 0 (.int 0) K = K h') ∧ RopeIs h' r 0 B ∧ Frm h h' r 8 := by
  obtain ⟨R, h1, h2⟩ := hr
  refine ⟨_, fun T K => rp_pn h1 _ K, ⟨R, rp_sn (m := 0) h1, fun j hj i hi => absurd hi (Nat.not_lt_zero i)⟩, (Frm.set _ _ _).wide (by omega) (by omega)⟩
def TyAt (h : ab_H) (t : Nat) (O B : Nat → Int32) : Prop := ab_get h t = some (.inr (5, [.ref (t + 1), .ref (t + 9), .ref (t + 10)])) ∧ ab_get h (t + 9) = some (.inl (0, 5, O)) ∧ ab_get h (t + 10) = some (.inl (0, 5, B))
theorem TyAt.frm {h h' : ab_H} {t b m : Nat} {O B : Nat → Int32} (ht : TyAt h t O B) (f : Frm h h' b m) (hd : (t < b ∨ b + m ≤ t) ∧ (t + 11 ≤ b ∨ b + m ≤ t + 9)) : TyAt h' t O B :=
  ⟨by rw [f.2 _ (by omega)]; exact ht.1, by rw [f.2 _ (by omega)]; exact ht.2.1, by rw [f.2 _ (by omega)]; exact ht.2.2⟩
section
variable {T : Type} {h : ab_H} {t : Nat} {O B : Nat → Int32}
theorem ty_r (ht : TyAt h t O B) (K : Nat → Option T) : ab_gfr h t 5 0 K = K (t + 1) := gfr_at ht.1 rfl K
theorem ty_o (ht : TyAt h t O B) (K : Nat → Option T) : ab_gfr h t 5 1 K = K (t + 9) := gfr_at ht.1 rfl K
theorem ty_b (ht : TyAt h t O B) (K : Nat → Option T) : ab_gfr h t 5 2 K = K (t + 10) := gfr_at ht.1 rfl K
theorem ty_c (ht : TyAt h t O B) (K : Option T) : ab_ckc h t 5 K = K := ckc_at ht.1 K
theorem ty_lo (ht : TyAt h t O B) {p : Nat} (hp : p < 5) (K : Int32 → Option T) : ab_iald h (t + 9) (nI p) K = K (O p) := iald_at ht.2.1 hp (by decide) K
theorem ty_lb (ht : TyAt h t O B) {p : Nat} (hp : p < 5) (K : Int32 → Option T) : ab_iald h (t + 10) (nI p) K = K (B p) := iald_at ht.2.2 hp (by decide) K
theorem ty_ao (ht : TyAt h t O B) {p : Nat} (hp : p < 5) (x : Int32) (K : ab_H → Option T) : ab_iast h (t + 9) (nI p) x K = K (ab_set h (t + 9) (.inl (0, 5, upd O p x))) := iast_at ht.2.1 hp (by decide) x K
end
theorem ty_uo {h : ab_H} {t : Nat} {O B : Nat → Int32} (ht : TyAt h t O B) (G : Nat → Int32) : TyAt (ab_set h (t + 9) (.inl (0, 5, G))) t G B := by
  refine ⟨?_, get_same _ _ _, ?_⟩
  · rw [get_ne _ _ (by omega)]; exact ht.1
  · rw [get_ne _ _ (by omega)]; exact ht.2.2
theorem ty_ub {h : ab_H} {t : Nat} {O B : Nat → Int32} (ht : TyAt h t O B) (G : Nat → Int32) : TyAt (ab_set h (t + 10) (.inl (0, 5, G))) t O G := by
  refine ⟨?_, ?_, get_same _ _ _⟩
  · rw [get_ne _ _ (by omega)]; exact ht.1
  · rw [get_ne _ _ (by omega)]; exact ht.2.1
/-- at how many of the pitches i, i + 1 .. one says -/
def tsL (n : Nat) (R V : Nat → Nat → Int32) (x : Int32) : Nat → Nat → Int32 → Int32
  | 0, _, acc => acc
  | k + 1, i, acc => tsL n R V x k (i + 1) (if sayR n R V i = x then acc + 1 else acc + 0)
theorem t_ts_loop {h : ab_H} {t s n a m : Nat} {V Q R : Nat → Nat → Int32} {O B : Nat → Int32} (x : Int32) (ht : TyAt h t O B) (hs : SQ h s V m Q a) (hr : RopeIs h (t + 1) n R) (hn : n ≤ 5) : ∀ (k i : Nat) (acc : Int32), i + k = 8 → pt_Tying_timesSaying_57 t s x acc (nI i) h = some (some (.int (tsL n R V x k i acc)), h) := by
  intro k
  induction k with
  | zero =>
    intro i acc hi
    rw [q_Tying_timesSaying_57, if_pos (show (8 : Int32) ≤ nI i from nI_le (a := 8) (by omega) (by omega))]
    rfl
  | succ k ih =>
    intro i acc hi
    rw [q_Tying_timesSaying_57, if_neg (show ¬ (8 : Int32) ≤ nI i from nI_ge (b := 8) (by omega) (by decide)), ty_r ht, sq_w hs, ri_c hr, t_sayer hr hs.2.1 hn (by omega), cI_some, nI_1, ih (i + 1) _ (by omega), ih (i + 1) _ (by omega)]
    simp only [tsL]
    split <;> rfl
def tyV (n : Nat) (Q V : Nat → Nat → Int32) (x : Int32) (w : Nat → Nat) : Int32 := tsL n (ropU (fun j i => Q j (w i)) 5 (bt1 0)) V x 8 0 0
theorem t_order_loop {t s n a : Nat} {V Q : Nat → Nat → Int32} {O B : Nat → Int32} (x : Int32) (x4 : Option Value) (w : Nat → Nat) (hw : ∀ i, i < n → w i < n ∧ O i = nI (w i)) (hn : n ≤ 5) (hd : t + 11 ≤ s ∨ s + 21 ≤ t) : ∀ (k i : Nat) (h : ab_H), i + k = n → TyAt h t O B → SQ h s V n Q a → RopeIs h (t + 1) i (fun j l => Q j (w l)) → ∃ h', pt_Tying_timesSaying_10 t s x (nI i) x4 h = some (some (.int (tyV n Q V x w)), h') ∧ RopeSh h' (t + 1) ∧ Frm h h' (t + 1) 8 := by
  intro k
  induction k with
  | zero =>
    intro i h hi ht hs hr
    have e : i = n := by omega
    subst e
    obtain ⟨h1, e1, r1, f1⟩ := t_setSags hr hn (m := 0) (by omega)
    rw [nI_0] at e1
    have e2 := t_ts_loop x (ht.frm f1 (by omega)) (hs.frm f1 (by omega)) r1 hn 8 0 0 (by omega)
    rw [nI_0] at e2
    rw [q_Tying_timesSaying_10, sq_r hs, ri_n hs.2.2, if_pos (nI_le (by omega) (by omega)), ty_r ht, ri_c hr, e1, cV_some, e2]
    exact ⟨h1, rfl, ⟨_, _, r1⟩, f1⟩
  | succ k ih =>
    intro i h hi ht hs hr
    obtain ⟨w1, w2⟩ := hw i (by omega)
    obtain ⟨h1, e1, r1, f1⟩ := t_tie (B := fun j l => Q j (w l)) hr hs.2.2 (by omega) (by omega) hn w1 (fun _ _ _ _ => rfl) (fun _ _ => rfl)
    obtain ⟨h2, e2, r2, f2⟩ := ih (i + 1) h1 (by omega) (ht.frm f1 (by omega)) (hs.frm f1 (by omega)) r1
    refine ⟨h2, ?_, r2, f1.trans f2⟩
    rw [q_Tying_timesSaying_10, sq_r hs, ri_n hs.2.2, if_neg (nI_ge (by omega) (by omega)), ty_r ht, sq_r hs, ty_o ht, ty_lo ht (by omega), w2, ri_c hr, e1, cV_some, nI_1, e2]
theorem t_timesSaying {h : ab_H} {t s n a : Nat} {V Q : Nat → Nat → Int32} {O B : Nat → Int32} (x : Int32) (w : Nat → Nat) (hw : ∀ i, i < n → w i < n ∧ O i = nI (w i)) (ht : TyAt h t O B) (hr : RopeSh h (t + 1)) (hs : SQ h s V n Q a) (hn : n ≤ 5) (hd : t + 11 ≤ s ∨ s + 21 ≤ t) : ∃ h', fn_Tying_timesSaying t s x h = some (some (.int (tyV n Q V x w)), h') ∧ RopeSh h' (t + 1) ∧ Frm h h' (t + 1) 8 := by
  obtain ⟨l, P, hr⟩ := hr
  obtain ⟨h1, e1, r1, f1⟩ := t_none hr (fun j l => Q j (w l))
  obtain ⟨h2, e2, r2, f2⟩ := t_order_loop x none w hw hn hd n 0 h1 (by omega) (ht.frm f1 (by omega)) (hs.frm f1 (by omega)) r1
  rw [nI_0] at e2
  refine ⟨h2, ?_, r2, f1.trans f2⟩
  rw [q_Tying_timesSaying, ty_r ht, e1, e2]
