/-! the reference: all orders, by their codes -/
def uL (n : Nat) : Nat → Nat → Nat → Nat
  | 0, _, w => w
  | k + 1, l, w => uL n k (l / n) (w ||| 2 ^ (l % n))
def dg (n : Nat) : Nat → Nat → Nat → Nat
  | 0, _, _ => 0
  | k + 1, l, j => if j = k then l % n else dg n k (l / n) j
theorem dg_lt {n : Nat} (h0 : 0 < n) : ∀ (k l j : Nat), dg n k l j < n
  | 0, _, _ => h0
  | k + 1, l, j => by
    unfold dg
    split
    · exact Nat.mod_lt _ h0
    · exact dg_lt h0 k (l / n) j
theorem uL_lt {n : Nat} (hn : n ≤ 5) (h0 : 0 < n) : ∀ (k l w : Nat), w < 32 → uL n k l w < 32
  | 0, _, _, h => h
  | k + 1, l, w, h => by
    unfold uL
    refine uL_lt hn h0 k (l / n) _ ?_
    have : l % n < n := Nat.mod_lt _ h0
    exact Nat.or_lt_two_pow (n := 5) h (Nat.pow_lt_pow_right (by decide) (by omega))
theorem or_bit : ∀ w, w < 32 → ∀ d, d < 5 → nI w ||| ((1 : Int32) <<< (nI d &&& 31)) = nI (w ||| 2 ^ d) := by decide +kernel
theorem add_m1 (x : Int32) : x + (-1) = x - 1 := (Int32.sub_eq_add_neg x 1).symm
section
variable {h : ab_H} {m : Nat} {u v : Int64} {f : Nat → Int32} {n a rs sg : Nat} {I : Nat → Int32} {K S : Nat → Int32}
theorem m_ord_loop (hn : n ≤ 5) (h0 : 0 < n) (e0 : f 0 = nI n) (x1 : Int32) : ∀ (k l w : Nat) (A : Nat → Nat → Int32), k ≤ n → l < 2 ^ 31 → w < 32 → A 0 = f → ∃ A', pt_M_layOrder_12 m x1 (nI w) (nI l) (nI k - 1) (mH h m A I u v) = some (some (.int (if uL n k l w = 2 ^ n - 1 then 1 else 0)), mH h m A' I u v) ∧ (∀ j, j < k → A' 4 j = nI (dg n k l j)) ∧ (∀ j, k ≤ j → A' 4 j = A 4 j) ∧ (∀ r, r ≠ 4 → A' r = A r) := by
  have h32 := pow_le32 hn
  have hne : ¬ nI n = 0 := nI_ne0 h0 (by omega)
  intro k
  induction k with
  | zero =>
    intro l w A hk hl hw hA
    have e0' : A 0 0 = nI n := by rw [hA]; exact e0
    rw [q_M_layOrder_12, if_pos (by decide), mc, m_all hn e0', cI_some]
    refine ⟨A, ?_, fun j hj => absurd hj (Nat.not_lt_zero j), fun _ _ => rfl, fun _ _ => rfl⟩
    rw [uL]
    by_cases hx : w = 2 ^ n - 1
    · rw [if_pos hx, if_pos (congrArg nI hx), chk_b1]
    · rw [if_neg hx, if_neg (fun e => hx ((nI_eq (by omega) (by omega)).mp e)), chk_b0]
  | succ k ih =>
    intro l w A hk hl hw hA
    have e0' : A 0 0 = nI n := by rw [hA]; exact e0
    have e0'' : (ropU A 4 (upd (A 4) k (nI (l % n)))) 0 0 = nI n := e0'
    have hm : l % n < n := Nat.mod_lt _ h0
    obtain ⟨A', e1, r1, r2, r3⟩ := ih (l / n) (w ||| 2 ^ (l % n)) (ropU A 4 (upd (A 4) k (nI (l % n)))) (by omega) (Nat.lt_of_le_of_lt (Nat.div_le_self _ _) hl) (Nat.or_lt_two_pow (n := 5) hw (Nat.pow_lt_pow_right (by decide) (by omega))) hA
    refine ⟨A', ?_, ?_, ?_, ?_⟩
    · rw [nI_pred, q_M_layOrder_12, if_neg (nI_pos (by omega)), mr_6, mc, m_many, cI_some, e0', if_neg hne, pk_rem hl h0 (by omega), ma_4 (by omega), mc, m_many, cI_some, e0'', if_neg hne, mr_6, ml_4 (by omega), ropU_at, up_at, or_bit w hw _ (by omega), pk_div hl h0 (by omega), add_m1, e1]
      rfl
    · intro j hj
      rw [dg]
      by_cases hjk : j = k
      · subst hjk
        rw [if_pos rfl, r2 j (Nat.le_refl _), ropU_at, up_at]
      · rw [if_neg hjk]
        exact r1 j (by omega)
    · intro j hj
      rw [r2 j (by omega), ropU_at, up_ne _ _ (by omega)]
    · intro r hr
      rw [r3 r hr, ropU_ne _ _ hr]
theorem m_layOrder (hn : n ≤ 5) (h0 : 0 < n) (e0 : f 0 = nI n) {c : Nat} (hc : c < 2 ^ 31) {t : Nat → Nat} {A : Nat → Nat → Int32} (l : Lay f n n t K S 0 rs A I) : ∃ A', fn_M_layOrder m (nI c) (mH h m A I u v) = some (some (.int (if uL n n c 0 = 2 ^ n - 1 then 1 else 0)), mH h m A' I u v) ∧ Lay f n n (dg n n c) K S 0 rs A' I ∧ (∀ r, r ≠ 4 → A' r = A r) := by
  have e0' : A 0 0 = nI n := by rw [l.1]; exact e0
  obtain ⟨A', e1, r1, r2, r3⟩ := m_ord_loop (h := h) (m := m) (u := u) (v := v) (I := I) hn h0 e0 (nI c) n c 0 A (Nat.le_refl _) hc (by omega) l.1
  rw [nI_0] at e1
  refine ⟨A', ?_, ⟨(r3 0 (by decide)).trans l.1, l.2.1, l.2.2.1, l.2.2.2.1, fun i hi => ⟨dg_lt h0 n c i, r1 i hi⟩, fun d hd => ?_⟩, r3⟩
  · rw [q_M_layOrder, mc, m_many, cI_some, e0', e1]
  · rw [r3 5 (by decide), r3 6 (by decide)]
    exact l.2.2.2.2.2 d hd
theorem m_at_loop (hn : n ≤ 5) (hrs : rs < 256) (x x2 most cs c : Int32) {t : Nat → Nat} {A : Nat → Nat → Int32} (l : Lay f n n t K S 0 rs A I) : ∀ (d i : Nat) (acc : Int32), i + d = 8 → pt_M_tied_86 m x x2 most cs c acc (nI i) (mH h m A I u v) = pt_M_tied_122 m x x2 most cs c (tsL n (mQ f t K S 0 rs) (WF f) x d i acc) 0 (mH h m A I u v) := by
  intro d
  induction d with
  | zero =>
    intro i acc hi
    rw [q_M_tied_86, if_pos (show (8 : Int32) ≤ nI i from nI_le (a := 8) (by omega) (by omega))]
    rfl
  | succ d ih =>
    intro i acc hi
    have hs := m_sayer (h := h) (m := m) (u := u) (v := v) l hn hn (by omega) hrs (p := i) (by omega)
    rw [q_M_tied_86, if_neg (show ¬ (8 : Int32) ≤ nI i from nI_ge (b := 8) (by omega) (by decide)), mc, hs, cI_some, nI_1, tsL]
    split
    · exact ih (i + 1) _ (by omega)
    · exact ih (i + 1) _ (by omega)
theorem m_keep_loop (hn : n ≤ 5) (e0 : f 0 = nI n) (x x2 most cs c at_ : Int32) (hat : ¬ at_ ≤ most) : ∀ (d i : Nat) (A : Nat → Nat → Int32), i + d = n → A 0 = f → (∀ j, j < i → A 8 j = A 4 j) → ∃ A' y, pt_M_tied_122 m x x2 most cs c at_ (nI i) (mH h m A I u v) = pt_M_tied_64 m x x2 at_ cs (c + 1) (some (.int at_)) y (mH h m A' I u v) ∧ (∀ j, j < n → A' 8 j = A 4 j) ∧ (∀ r, r ≠ 8 → A' r = A r) := by
  intro d
  induction d with
  | zero =>
    intro i A hi hA hj
    have e : i = n := by omega
    subst e
    have e0' : A 0 0 = nI i := by rw [hA]; exact e0
    rw [q_M_tied_122, mc, m_many, cI_some, e0', if_pos (nI_le (by omega) (by omega)), q_M_tied_157, if_neg hat]
    exact ⟨A, _, rfl, hj, fun _ _ => rfl⟩
  | succ d ih =>
    intro i A hi hA hj
    have e0' : A 0 0 = nI n := by rw [hA]; exact e0
    obtain ⟨A', y, e1, r1, r2⟩ := ih (i + 1) (ropU A 8 (upd (A 8) i (A 4 i))) (by omega) hA (by
      intro j hj'
      rw [ropU_at, ropU_ne _ _ (by decide)]
      by_cases e : j = i
      · subst e
        rw [up_at]
      · rw [up_ne _ _ e]
        exact hj j (by omega))
    refine ⟨A', y, ?_, ?_, ?_⟩
    · rw [q_M_tied_122, mc, m_many, cI_some, e0', if_neg (nI_ge (by omega) (by omega)), if_neg hat, mr_13, mr_6, ml_4 (by omega), ma_8 (by omega), nI_1, e1]
    · intro j hj'
      rw [r1 j hj', ropU_ne _ _ (by decide)]
    · intro r hr
      rw [r2 r hr, ropU_ne _ _ hr]
end
def tdL (n : Nat) (Q V : Nat → Nat → Int32) (x : Int32) : Nat → Nat → Int32 → (Nat → Int32) → Int32 × (Nat → Int32)
  | 0, _, most, B => (most, B)
  | k + 1, c, most, B => if uL n n c 0 = 2 ^ n - 1 then (if tyV n Q V x (dg n n c) ≤ most then tdL n Q V x k (c + 1) most B else tdL n Q V x k (c + 1) (tyV n Q V x (dg n n c)) (fun j => nI (dg n n c j))) else tdL n Q V x k (c + 1) most B
theorem tsL_cong {n : Nat} (hn : n ≤ 5) {R R' V : Nat → Nat → Int32} (x : Int32) (e : REq n R R') : ∀ (k i : Nat) (acc : Int32), i + k = 8 → tsL n R V x k i acc = tsL n R' V x k i acc
  | 0, _, _, _ => rfl
  | k + 1, i, acc, hi => by
    rw [tsL, tsL, sayR_cong hn e (WEq_refl V) (show i < 8 by omega)]
    exact tsL_cong hn x e k (i + 1) _ (by omega)
theorem bt1_0 (i : Nat) : bt1 0 i = 0 := by
  unfold bt1
  rw [Nat.zero_testBit]
  rfl
theorem ty_mQ {n : Nat} (hn : n ≤ 5) (f : Nat → Int32) (sg rs : Nat) (x : Int32) (w : Nat → Nat) : tsL n (mQ f w (fK f) (fS f) 0 rs) (WF f) x 8 0 0 = tyV n (RF f sg rs) (WF f) x w := by
  refine tsL_cong hn x ?_ 8 0 0 (by omega)
  intro j hj i hi
  match j, hj with
  | 0, _ => rfl
  | 1, _ => rfl
  | 2, _ => rfl
  | 3, _ => rfl
  | 4, _ => rfl
  | 5, _ =>
    show bt1 0 (w i) = bt1 0 i
    rw [bt1_0, bt1_0]
  | 6, _ => rfl
  | k + 7, hj => omega
section
variable {h : ab_H} {m : Nat} {u v : Int64} {f : Nat → Int32} {n a rs sg : Nat} {I : Nat → Int32}
theorem KQ.of4 {A B : Nat → Nat → Int32} {I : Nat → Int32} (h : ∀ r, r ≠ 4 → r ≠ 8 → B r = A r) : KQ A I B I := ⟨h 0 (by decide) (by decide), h 1 (by decide) (by decide), h 2 (by decide) (by decide), h 3 (by decide) (by decide), h 10 (by decide) (by decide), rfl⟩
theorem m_tied_loop (F : Fo f n a sg rs) (h0 : 0 < n) (x x2 : Int32) (hN : n ^ n < 2 ^ 31) : ∀ (d c : Nat) (most : Int32) (x6 x7 : Option Value) (t : Nat → Nat) (A : Nat → Nat → Int32) (B : Nat → Int32), c + d = n ^ n → Lay f n n t (fK f) (fS f) 0 rs A I → (∀ j, j < n → A 8 j = B j) → ∃ A' y6 y7, pt_M_tied_64 m x x2 most (nI (n ^ n)) (nI c) x6 x7 (mH h m A I u v) = pt_M_tied_64 m x x2 (tdL n (RF f sg rs) (WF f) x d c most B).1 (nI (n ^ n)) (nI (n ^ n)) y6 y7 (mH h m A' I u v) ∧ (∀ j, j < n → A' 8 j = (tdL n (RF f sg rs) (WF f) x d c most B).2 j) ∧ KQ A I A' I := by
  have hn := F.1
  have e0 := F.2.1
  intro d
  induction d with
  | zero =>
    intro c most x6 x7 t A B hc l hB
    have e : c = n ^ n := by omega
    subst e
    exact ⟨A, x6, x7, rfl, hB, KQ.refl _ _⟩
  | succ d ih =>
    intro c most x6 x7 t A B hc l hB
    obtain ⟨A1, e1, l1, r1⟩ := m_layOrder (h := h) (m := m) (u := u) (v := v) hn h0 e0 (c := c) (by omega) l
    have k1 : KQ A I A1 I := KQ.of4 (fun r h4 _ => r1 r h4)
    have hB1 : ∀ j, j < n → A1 8 j = B j := fun j hj => by rw [r1 8 (by decide)]; exact hB j hj
    rw [q_M_tied_64, if_neg (nI_ge (by omega) hN), mc, e1, cI_some, nI_1]
    rw [tdL]
    by_cases hu : uL n n c 0 = 2 ^ n - 1
    · rw [if_pos hu, if_pos hu, if_neg (by decide)]
      have e2 := m_at_loop (h := h) (m := m) (u := u) (v := v) hn (by have := F.rs32; omega) x x2 most (nI (n ^ n)) (nI c) l1 8 0 0 (by omega)
      rw [nI_0, ty_mQ hn f sg rs x (dg n n c)] at e2
      rw [e2]
      by_cases hm : tyV n (RF f sg rs) (WF f) x (dg n n c) ≤ most
      · rw [if_pos hm]
        have e0' : A1 0 0 = nI n := by rw [l1.1]; exact e0
        obtain ⟨A2, y6, y7, e3, r3, k3⟩ := ih (c + 1) most (some (.int (tyV n (RF f sg rs) (WF f) x (dg n n c)))) (some (.int 0)) _ A1 B (by omega) l1 hB1
        refine ⟨A2, y6, y7, ?_, r3, k1.trans k3⟩
        rw [q_M_tied_122, mc, m_many, cI_some, e0', if_pos hm, q_M_tied_157, if_pos hm, nI_1, ite_self, e3]
      · rw [if_neg hm]
        obtain ⟨A2, y, e3, r3, r4⟩ := m_keep_loop (h := h) (m := m) (u := u) (v := v) (I := I) hn e0 x x2 most (nI (n ^ n)) (nI c) _ hm n 0 A1 (by omega) l1.1 (fun j hj => absurd hj (Nat.not_lt_zero j))
        rw [nI_0, nI_1] at e3
        have l2 : Lay f n n (dg n n c) (fK f) (fS f) 0 rs A2 I := by
          obtain ⟨l0, l1, l2, l3, l4, l5⟩ := l1
          refine ⟨(r4 0 (by decide)).trans l0, l1, l2, l3, ?_, ?_⟩
          · rw [r4 4 (by decide)]; exact l4
          · rw [r4 5 (by decide), r4 6 (by decide)]; exact l5
        obtain ⟨A3, y6, y7, e4, r5, k4⟩ := ih (c + 1) (tyV n (RF f sg rs) (WF f) x (dg n n c)) (some (.int (tyV n (RF f sg rs) (WF f) x (dg n n c)))) y _ A2 (fun j => nI (dg n n c j)) (by omega) l2 (fun j hj => by rw [r3 j hj]; exact (l1.2.2.2.2.1 j hj).2)
        refine ⟨A3, y6, y7, ?_, r5, (k1.trans (KQ.of4 (fun r _ h8 => r4 r h8))).trans k4⟩
        rw [e3, e4]
    · rw [if_neg hu, if_neg hu, if_pos rfl]
      obtain ⟨A2, y6, y7, e3, r3, k3⟩ := ih (c + 1) most x6 x7 _ A1 B (by omega) l1 hB1
      exact ⟨A2, y6, y7, e3, r3, k1.trans k3⟩
theorem m_codes_loop (hn : n ≤ 5) {A : Nat → Nat → Int32} (e0 : A 0 0 = nI n) (x x2 : Int32) (x6 x7 : Option Value) : ∀ (d i : Nat), i + d = n → pt_M_tied_28 m x x2 (-1) (nI (n ^ i)) (nI i) x6 x7 (mH h m A I u v) = (ab_cV (fn_M_layRope m (mH h m A I u v)) fun h3 => (ab_pf h3 m 11 10 (.int (0 : Int32)) fun h4 => pt_M_tied_64 m x x2 (-1) (nI (n ^ n)) (0 : Int32) x6 x7 h4)) := by
  intro d
  induction d with
  | zero =>
    intro i hi
    have e : i = n := by omega
    subst e
    rw [q_M_tied_28, mc, m_many, cI_some, e0, if_pos (nI_le (by omega) (by omega)), mc]
  | succ d ih =>
    intro i hi
    rw [q_M_tied_28, mc, m_many, cI_some, e0, if_neg (nI_ge (by omega) (by omega)), mc, m_many, cI_some, e0, pk_mul, nI_1, ← Nat.pow_succ]
    exact ih (i + 1) (by omega)
end
