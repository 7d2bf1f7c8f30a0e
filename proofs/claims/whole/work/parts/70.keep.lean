/-! both sides: type, clear -/
section
variable {ro : Nat → Option ab_Ce}
section
variable {h h1 : ab_H} {x m : Nat} {A B : Nat → Nat → Int32} {I J : Nat → Int32} {u v : Int64} {L L' n a sg rs nn un : Nat}
theorem JW.txt (W : JW ro h x m A I u v L n a sg rs nn un) {bs : Nat → Int32} (fr : Frm h h1 (x + 87) 2) (T : TxIs h1 (x + 87) L' bs) (hL : L' ≤ 150) (hJ : J 16 = nI L') (k : B = ropU A 10 bs) : JR ro (mH h1 m B J u v) x m := by
  subst k
  obtain ⟨w1, w2, w3, w4, w5, ⟨x1, x2, x3, x4, x5⟩, w7, w8⟩ := W
  exact JW.end w2 (w3.frm fr (by omega)) hJ hL ⟨by rw [fr.2 _ (by omega)]; exact x1, x2.frm fr (by omega), x3.frm fr (by omega), x4.frm fr (by omega), T⟩ (w7.frm fr (by omega)) w8
end
theorem tx_pL {T : Type} {h : ab_H} {x L st en : Nat} {b : Nat → Int32} {tk : Int32} (hx : TxAt h x L b tk st en) (y : Nat) (K : ab_H → Option T) : ab_pf h x 4 0 (.int (nI y)) K = K (ab_set h x (txC x y tk st en)) := pf_at hx.1 (show 0 < 5 by decide) _ K
theorem byte_id : ∀ k, k < 128 → vp_nar .byte (Int32.toInt8 (nI k)).toInt32 = nI k := by decide +kernel
section
variable {h : ab_H} {x m : Nat}
theorem j_clear (J : JR ro h x m) : JI ro (fn_X_clear x h) (fun k => fn_M_clear m k) x m := by
  obtain ⟨A, I, u, v, L, n, a, sg, rs, nn, un, W⟩ := J
  have c1 := W.cell
  obtain ⟨tk, st, en, tx⟩ := W.2.2.2.2.2.1.2.2.2.2
  have f1 := Frm.set h (x + 87) (txC (x + 87) 0 tk st en)
  refine JI.mk (r := nI L) ?_ (W.mid f1 (by omega)) ?_ (W.txt (J := upd I 16 0) (f1.wide (by omega) (by omega)) ⟨tk, st, en, tx_u tx 0 tk st en⟩ (by omega) ((up_at _ _ _).trans nI_0.symm) (ropU_self A 10).symm)
  · rw [q_X_clear, xx_4 c1, tx_n tx, xx_4 c1, pf_at tx.1 (show 0 < 5 by decide)]
    rfl
  · rw [q_M_clear, mi_16, W.2.2.2.1, mp_16]
theorem j_type (J : JR ro h x m) (c : Int32) : JI ro (fn_X_type x c h) (fun k => fn_M_type m c k) x m := by
  obtain ⟨A, I, u, v, L, n, a, sg, rs, nn, un, W⟩ := J
  have c1 := W.cell
  have hL := W.2.2.2.2.1
  have eI := W.2.2.2.1
  obtain ⟨tk, st, en, tx⟩ := W.2.2.2.2.2.1.2.2.2.2
  rcases inV_d c 0 127 (by omega) (by omega) with e | ⟨e, k, -, hk, rfl⟩
  · obtain ⟨h1, h2, e1, e2, e3, e4⟩ := j_bad W (-2)
    refine JI.mk (r := -2) ?_ e2 ?_ e4
    · rw [q_X_type, x_wn c 0 127 (by decide) (by decide), cI_some, e, if_pos rfl, xx_c c1, e1, cI_some]
    · rw [q_M_type, m_wn c 0 127 (by decide) (by decide), cI_some, e, if_pos rfl, mc, e3, cI_some]
  · by_cases h150 : L < 150
    · have b0 : ∀ {T : Type} (K : ab_H → Option T), ab_bast h (x + 87 + 1) (nI L) (Int32.toInt8 (nI k)).toInt32 K = K (ab_set h (x + 87 + 1) (.inl (1, 150, upd (A 10) L (nI k)))) := fun K => by
        unfold ab_bast
        rw [tx.2]
        simp only
        rw [nI_clamp (by omega), if_pos ⟨Or.inl trivial, nI_pos' (by omega), h150⟩, if_pos trivial, byte_id k (by omega)]
      have f1 := Frm.set h (x + 87 + 1) (.inl (1, 150, upd (A 10) L (nI k)))
      have tx1 : TxAt (ab_set h (x + 87 + 1) (.inl (1, 150, upd (A 10) L (nI k)))) (x + 87) L (upd (A 10) L (nI k)) tk st en := ⟨by rw [f1.2 _ (by omega)]; exact tx.1, get_same _ _ _⟩
      have f2 := Frm.set (ab_set h (x + 87 + 1) (.inl (1, 150, upd (A 10) L (nI k)))) (x + 87) (txC (x + 87) (L + 1) tk st en)
      have tx2 := tx_u tx1 (L + 1) tk st en
      have f3 := (f1.wide (b := x + 87) (m := 2) (by omega) (by omega)).trans (f2.wide (by omega) (by omega))
      have c3 : ab_get (ab_set (ab_set h (x + 87 + 1) (.inl (1, 150, upd (A 10) L (nI k)))) (x + 87) (txC (x + 87) (L + 1) tk st en)) x = some (.inr (10, xFs x u v (A 3))) := by rw [f3.2 _ (by omega)]; exact c1
      refine JI.mk (r := nI (L + 1)) ?_ (W.mid f3 (by omega)) ?_ (W.txt (J := upd I 16 (nI (L + 1))) f3 ⟨tk, st, en, tx2⟩ (by omega) (up_at _ _ _) rfl)
      · rw [q_X_type, x_wn _ 0 127 (by decide) (by decide), cI_some, e, if_neg z10, xx_4 c1, tx_n tx, if_pos (show nI L < (150 : Int32) from nI_lt (b := 150) h150 (by decide)), xx_4 c1, tx_c tx, q_Text_append, tx_n tx, if_neg (show ¬ (150 : Int32) ≤ nI L from nI_ge (b := 150) h150 (by decide)), tx_b tx, tx_n tx, b0, tx_n tx1, nI_1, tx_pL tx1, cV_some, xx_4 c3, tx_n tx2]
      · rw [q_M_type, m_wn _ 0 127 (by decide) (by decide), cI_some, e, if_neg z10, mi_16, eI, if_neg (show ¬ nI L = (150 : Int32) from fun z => by have := (nI_eq (b := 150) (by omega) (by decide)).mp z; omega), mr_15, mi_16, eI, ma_10 h150, mi_16, eI, nI_1, mp_16, mi_16, up_at]
    · have hL' : L = 150 := by omega
      obtain ⟨h1, h2, g1, g2, g3, g4⟩ := j_full W
      refine JI.mk (r := -4) ?_ g2 ?_ g4
      · rw [q_X_type, x_wn _ 0 127 (by decide) (by decide), cI_some, e, if_neg z10, xx_4 c1, tx_n tx, if_neg (show ¬ nI L < (150 : Int32) from nI_nlt (b := 150) (by omega) (by omega)), xx_c c1, g1, cI_some]
      · rw [q_M_type, m_wn _ 0 127 (by decide) (by decide), cI_some, e, if_neg z10, mi_16, eI, if_pos (show nI L = (150 : Int32) by rw [hL']; rfl), mc, g3, cI_some]
end
/-! the reference: what may be undone -/
def shF (f : Nat → Int32) (k : Nat) : Nat → Int32 := fun i => if 70 ≤ i ∧ i < 70 + k then f (i + 3) else f i
def psF (g : Nat → Int32) (w k : Nat) : Nat → Int32 := fun i => if 70 + 3 * w ≤ i ∧ i < 70 + 3 * w + k then g (1 + (i - (70 + 3 * w))) else g i
theorem shF_s (f : Nat → Int32) (k : Nat) : upd (shF f k) (70 + k) (shF f k (73 + k)) = shF f (k + 1) := by
  funext i
  unfold upd shF
  by_cases h1 : i = 70 + k
  · subst h1
    rw [if_pos rfl, if_neg (by omega), if_pos (by omega)]
    exact congrArg f (by omega)
  · rw [if_neg h1]
    by_cases h2 : 70 ≤ i ∧ i < 70 + k
    · rw [if_pos h2, if_pos (by omega)]
    · rw [if_neg h2, if_neg (by omega)]
theorem psF_s (g : Nat → Int32) (w k : Nat) (hk : k < 3) : upd (psF g w k) (70 + 3 * w + k) (psF g w k (1 + k)) = psF g w (k + 1) := by
  funext i
  unfold upd psF
  by_cases h1 : i = 70 + 3 * w + k
  · subst h1
    rw [if_pos rfl, if_neg (by omega), if_pos (by omega)]
    exact congrArg g (by omega)
  · rw [if_neg h1]
    by_cases h2 : 70 + 3 * w ≤ i ∧ i < 70 + 3 * w + k
    · rw [if_pos h2, if_pos (by omega)]
    · rw [if_neg h2, if_neg (by omega)]
theorem ropU_rr (A : Nat → Nat → Int32) (j : Nat) (f g : Nat → Int32) : ropU (ropU A j f) j g = ropU A j g := ropU_ropU A j f g
section
variable {h : ab_H} {m : Nat} {A : Nat → Nat → Int32} {I : Nat → Int32} {u v : Int64}
theorem m_keep13 (f : Nat → Int32) : ∀ (d k : Nat), k + d = 21 → pt_M_keep_13 m (nI k) (mH h m (ropU A 0 (shF f k)) I u v) = pt_M_keep_53 m 0 (mH h m (ropU A 0 (upd (shF f 21) 5 7)) I u v) := by
  intro d
  induction d with
  | zero =>
    intro k hk
    have e : k = 21 := by omega
    subst e
    rw [q_M_keep_13, if_pos (by decide), mr_0, ma_0_5, ropU_rr, ropU_at]
  | succ d ih =>
    intro k hk
    have e1 : (73 : Int32) + nI k = nI (73 + k) := nI_add 73 k
    have e2 : (70 : Int32) + nI k = nI (70 + k) := nI_add 70 k
    rw [q_M_keep_13, if_neg (show ¬ (21 : Int32) ≤ nI k from nI_ge (b := 21) (by omega) (by decide)), mr_0, mr_0, e1, e2, ml_0 (by omega), ma_0 (by omega), ropU_rr, ropU_at, shF_s, nI_1]
    exact ih (k + 1) (by omega)
theorem m_keep53 (g : Nat → Int32) {w : Nat} (hw : w ≤ 7) (e5 : g 5 = nI w) : ∀ (d k : Nat), k + d = 3 → pt_M_keep_53 m (nI k) (mH h m (ropU A 0 (psF g w k)) I u v) = some (none, mH h m (ropU A 0 (upd (psF g w 3) 5 (nI (w + 1)))) I u v) := by
  have p5 : ∀ k, psF g w k 5 = nI w := fun k => by
    unfold psF
    rw [if_neg (by omega)]
    exact e5
  intro d
  induction d with
  | zero =>
    intro k hk
    have e : k = 3 := by omega
    subst e
    rw [q_M_keep_53, if_pos (by decide), mr_0, ml_0_5, ropU_at, p5, nI_1, ma_0_5, ropU_rr, ropU_at]
  | succ d ih =>
    intro k hk
    have e1 : (1 : Int32) + nI k = nI (1 + k) := nI_add 1 k
    rw [q_M_keep_53, if_neg (show ¬ (3 : Int32) ≤ nI k from nI_ge (b := 3) (by omega) (by decide)), mr_0, mr_0, ml_0_5, ropU_at, p5, ix_70, nI_add, mr_0, e1, ml_0 (by omega), ma_0 (by omega), ropU_rr, ropU_at, psF_s g w k (by omega), nI_1]
    exact ih (k + 1) (by omega)
/-- what is kept: g is f with one more that may be undone, the w-th one -/
def Kpt (f g : Nat → Int32) (un w dl : Nat) : Prop := (∀ k, k < 70 → k ≠ 5 → g k = f k) ∧ g 5 = nI (w + 1) ∧ (∀ j, j < 3 → g (70 + 3 * w + j) = f (1 + j)) ∧ (∀ i, i < w → ∀ j, j < 3 → g (70 + 3 * i + j) = f (70 + 3 * (i + dl) + j)) ∧ ((un < 8 ∧ w = un ∧ dl = 0) ∨ (un = 8 ∧ w = 7 ∧ dl = 1))
theorem m_keep {f : Nat → Int32} {un : Nat} (hA : A 0 = f) (hu : un ≤ 8) (e5 : f 5 = nI un) : ∃ g w dl, fn_M_keep m (mH h m A I u v) = some (none, mH h m (ropU A 0 g) I u v) ∧ Kpt f g un w dl := by
  have e5' : A 0 5 = nI un := by rw [hA]; exact e5
  by_cases h8 : un = 8
  · subst h8
    have l1 := m_keep13 (h := h) (m := m) (A := A) (I := I) (u := u) (v := v) f 21 0 (by omega)
    have z0 : shF f 0 = A 0 := by
      funext i
      unfold shF
      rw [if_neg (by omega), hA]
    rw [z0, ropU_self, nI_0] at l1
    have l2 := m_keep53 (h := h) (m := m) (A := A) (I := I) (u := u) (v := v) (upd (shF f 21) 5 7) (w := 7) (by omega) (up_at _ _ _) 3 0 (by omega)
    have z1 : psF (upd (shF f 21) 5 7) 7 0 = upd (shF f 21) 5 7 := by
      funext i
      unfold psF
      rw [if_neg (by omega)]
    rw [z1, nI_0] at l2
    have sf : ∀ i, i ≠ 5 → (i < 91 → psF (upd (shF f 21) 5 7) 7 3 i = shF f 21 i) := fun i h5 hi => by
      unfold psF
      rw [if_neg (by omega), up_ne _ _ h5]
    refine ⟨upd (psF (upd (shF f 21) 5 7) 7 3) 5 (nI (7 + 1)), 7, 1, ?_, fun k hk h5 => ?_, up_at _ _ _, fun j hj => ?_, fun i hi j hj => ?_, Or.inr ⟨rfl, rfl, rfl⟩⟩
    · rw [q_M_keep, mr_0, ml_0_5, e5', if_pos (show nI 8 = (8 : Int32) from rfl), l1, l2]
    · rw [up_ne _ _ h5, sf k h5 (by omega)]
      unfold shF
      rw [if_neg (by omega)]
    · rw [up_ne _ _ (by omega)]
      unfold psF
      rw [if_pos (by omega), up_ne _ _ (by omega)]
      unfold shF
      rw [if_neg (by omega)]
      exact congrArg f (by omega)
    · rw [up_ne _ _ (by omega), sf _ (by omega) (by omega)]
      unfold shF
      rw [if_pos (by omega)]
      exact congrArg f (by omega)
  · have l2 := m_keep53 (h := h) (m := m) (A := A) (I := I) (u := u) (v := v) f (w := un) (by omega) e5 3 0 (by omega)
    have z1 : psF f un 0 = A 0 := by
      funext i
      unfold psF
      rw [if_neg (by omega), hA]
    rw [z1, ropU_self, nI_0] at l2
    refine ⟨upd (psF f un 3) 5 (nI (un + 1)), un, 0, ?_, fun k hk h5 => ?_, up_at _ _ _, fun j hj => ?_, fun i hi j hj => ?_, Or.inl ⟨by omega, rfl, rfl⟩⟩
    · rw [q_M_keep, mr_0, ml_0_5, e5', if_neg (show ¬ nI un = (8 : Int32) from fun z => by have := (nI_eq (b := 8) (by omega) (by decide)).mp z; omega), l2]
    · rw [up_ne _ _ h5]
      unfold psF
      rw [if_neg (by omega)]
    · rw [up_ne _ _ (by omega)]
      unfold psF
      rw [if_pos (by omega)]
      exact congrArg f (by omega)
    · rw [up_ne _ _ (by omega)]
      unfold psF
      rw [if_neg (by omega)]
      exact congrArg f (by omega)
end
section
variable {f g : Nat → Int32} {n a sg rs nn un w dl : Nat}
theorem Kpt.unN (K : Kpt f g un w dl) : (if un < 8 then un + 1 else 8) = w + 1 := by
  rcases K.2.2.2.2 with ⟨h1, h2, -⟩ | ⟨h1, h2, -⟩
  · rw [if_pos h1, h2]
  · rw [if_neg (by omega), h2]
theorem Kpt.uf (K : Kpt f g un w dl) (F : Fo f n a sg rs) {U : Nat → Nat → Int32} (hU : ∀ j, j < 3 → ∀ i, i < un → U j i = f (70 + 3 * i + j)) : ∀ j, j < 3 → ∀ i, i < w + 1 → (if un < 8 then pusU U un (nI a) (nI sg) (nI rs) else pusU (drpU U 7) 7 (nI a) (nI sg) (nI rs)) j i = g (70 + 3 * i + j) := by
  obtain ⟨k1, k2, k3, k4, k5⟩ := K
  have f1 : f (1 + 0) = nI a := F.2.2.2.1
  have f2 : f (1 + 1) = nI sg := F.2.2.2.2.2.1
  have f3 : f (1 + 2) = nI rs := F.2.2.2.2.2.2.2
  intro j hj i hi
  have last : ∀ (Q : Nat → Nat → Int32), pusU Q w (nI a) (nI sg) (nI rs) j w = g (70 + 3 * w + j) := fun Q => by
    rw [k3 j hj]
    match j, hj with
    | 0, _ => exact (up_at _ _ _).trans f1.symm
    | 1, _ => exact (up_at _ _ _).trans f2.symm
    | 2, _ => exact (up_at _ _ _).trans f3.symm
    | k + 3, hj => omega
  have old : ∀ (Q : Nat → Nat → Int32), i ≠ w → pusU Q w (nI a) (nI sg) (nI rs) j i = Q j i := fun Q hne => by
    match j, hj with
    | 0, _ => exact up_ne _ _ hne
    | 1, _ => exact up_ne _ _ hne
    | 2, _ => exact up_ne _ _ hne
    | k + 3, hj => omega
  rcases k5 with ⟨h1, h2, h3⟩ | ⟨h1, h2, h3⟩
  · rw [if_pos h1, ← h2]
    by_cases hw : i = w
    · subst hw
      exact last U
    · rw [old U hw, hU j hj i (by omega), k4 i (by omega) j hj, h3]
      rfl
  · rw [if_neg (by omega), ← h2]
    by_cases hw : i = w
    · subst hw
      exact last _
    · rw [old _ hw, k4 i (by omega) j hj, h3]
      unfold drpU
      rw [if_pos (by omega), hU j hj (i + 1) (by omega)]
theorem Kpt.ok (K : Kpt f g un w dl) (F : Fo f n a sg rs) (hU : ∀ i, i < un → ∃ b s r, b ≤ 8 ∧ s < 2 ^ n ∧ r < 2 ^ n ∧ f (70 + 3 * i) = nI b ∧ f (70 + 3 * i + 1) = nI s ∧ f (70 + 3 * i + 2) = nI r) : w + 1 ≤ 8 ∧ ∀ i, i < w + 1 → ∃ b s r, b ≤ 8 ∧ s < 2 ^ n ∧ r < 2 ^ n ∧ g (70 + 3 * i) = nI b ∧ g (70 + 3 * i + 1) = nI s ∧ g (70 + 3 * i + 2) = nI r := by
  obtain ⟨k1, k2, k3, k4, k5⟩ := K
  refine ⟨by omega, fun i hi => ?_⟩
  by_cases hw : i = w
  · subst hw
    exact ⟨a, sg, rs, F.2.2.1, F.2.2.2.2.1, F.2.2.2.2.2.2.1, (k3 0 (by decide)).trans F.2.2.2.1, (k3 1 (by decide)).trans F.2.2.2.2.2.1, (k3 2 (by decide)).trans F.2.2.2.2.2.2.2⟩
  · obtain ⟨b, s, r, h1, h2, h3, h4, h5, h6⟩ := hU (i + dl) (by omega)
    exact ⟨b, s, r, h1, h2, h3, (k4 i (by omega) 0 (by decide)).trans h4, (k4 i (by omega) 1 (by decide)).trans h5, (k4 i (by omega) 2 (by decide)).trans h6⟩
end
end
