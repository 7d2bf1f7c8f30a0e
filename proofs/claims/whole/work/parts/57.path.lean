/-! the reference: two who may sag; the path -/
def skE (sg p q i : Nat) : Int32 := (((nI sg &&& (((1 : Int32) <<< (nI p &&& 31)) ^^^ (-1 : Int32))) &&& (((1 : Int32) <<< (nI q &&& 31)) ^^^ (-1 : Int32))) ||| ((nI i &&& (1 : Int32)) <<< (nI p &&& 31))) ||| ((nI i >>> ((1 : Int32) &&& 31)) <<< (nI q &&& 31))
def skN (sg p q i : Nat) : Nat := (skE sg p q i).toNatClampNeg
theorem skE_i : ∀ sg, sg < 32 → ∀ p, p < 5 → ∀ q, q < 5 → ∀ i, i < 4 → skE sg p q i = nI (skN sg p q i) ∧ skN sg p q i < 32 := by decide +kernel
def skC (sg p q i : Nat) : Bool := Nat.beq p q || (List.range 5).all (fun c => decide (bt1 (skN sg p q i) c = prG (bt1 sg) p q i c))
theorem skC_t : ∀ sg, sg < 32 → ∀ p, p < 5 → ∀ q, q < 5 → ∀ i, i < 4 → skC sg p q i = true := by decide +kernel
theorem skN_b (sg : Nat) (h1 : sg < 32) (p : Nat) (h2 : p < 5) (q : Nat) (h3 : q < 5) (i : Nat) (h4 : i < 4) (h5 : p ≠ q) (c : Nat) (hc : c < 5) : bt1 (skN sg p q i) c = prG (bt1 sg) p q i c := by
  have e := skC_t sg h1 p h2 q h3 i h4
  unfold skC at e
  rw [Bool.or_eq_true] at e
  rcases e with e | e
  · exact absurd (Nat.eq_of_beq_eq_true e) h5
  · rw [List.all_eq_true] at e
    exact of_decide_eq_true (e c (List.mem_range.mpr hc))
theorem nI_xor1 : ∀ i, i < 4 → nI i ^^^ 1 = nI (i ^^^ 1) ∧ i ^^^ 1 < 4 := by decide +kernel
theorem nI_xor2 : ∀ i, i < 4 → nI i ^^^ 2 = nI (i ^^^ 2) ∧ i ^^^ 2 < 4 := by decide +kernel
def mrO (S : Nat → Int32) (x : Int32) (i j : Nat) : Int32 := if S i = x then 1 else if S (i ^^^ j) = x then 0 else 1
def mrL (S : Nat → Int32) (x y : Int32) : Nat → Nat → Int32 → Int32
  | 0, _, acc => acc
  | k + 1, i, acc => mrL S x y k (i + 1) (if mrO S x i 1 = 0 then acc else if mrO S y i 2 = 0 then acc else acc ||| (1 <<< (nI i &&& 31)))
def wsX (a0 a1 a2 a3 : Bool) : Int32 := ((((0 : Int32) ||| (if a0 = true then 1 <<< (nI 0 &&& 31) else 0)) ||| (if a1 = true then 1 <<< (nI 1 &&& 31) else 0)) ||| (if a2 = true then 1 <<< (nI 2 &&& 31) else 0)) ||| (if a3 = true then 1 <<< (nI 3 &&& 31) else 0)
def moX (a b : Bool) : Int32 := if a = true then 1 else if b = true then 0 else 1
def mtX (acc : Int32) (i : Nat) (a a' b b' : Bool) : Int32 := if moX a a' = 0 then acc else if moX b b' = 0 then acc else acc ||| (1 <<< (nI i &&& 31))
def mrX (a0 a1 a2 a3 b0 b1 b2 b3 : Bool) : Int32 := mtX (mtX (mtX (mtX 0 0 a0 a1 b0 b2) 1 a1 a0 b1 b3) 2 a2 a3 b2 b0) 3 a3 a2 b3 b1
section
variable {h : ab_H} {m : Nat} {u v : Int64} {f : Nat → Int32} {n a rs sg : Nat}
theorem m_rest_loop (F : Fo f n a sg rs) (ha : a < 8) {p q : Nat} (hp : p < n) (hq : q < n) (hpq : p ≠ q) (x6 : Option Value) : ∀ (d i s : Nat) (x5 : Option Value) (A : Nat → Nat → Int32) (I : Nat → Int32), i + d = 4 → Lay f n n idN (fK f) (fS f) s rs A I → (∀ j, j < i → A 9 j = sayR n (ropU (RF f sg rs) 5 (prG ((RF f sg rs) 5) p q j)) (WF f) a) → ∃ A' I' y5, pt_M_rests_53 m (nI p) (nI q) 0 (nI i) x5 x6 (mH h m A I u v) = pt_M_rests_125 m (nI p) (nI q) 0 0 y5 x6 (mH h m A' I' u v) ∧ (∀ j, j < 4 → A' 9 j = sayR n (ropU (RF f sg rs) 5 (prG ((RF f sg rs) 5) p q j)) (WF f) a) ∧ KQ A I A' I' := by
  have hn := F.1
  intro d
  induction d with
  | zero =>
    intro i s x5 A I hi l hA
    have e : i = 4 := by omega
    subst e
    rw [q_M_rests_53, if_pos (show (4 : Int32) ≤ nI 4 by decide)]
    exact ⟨A, I, x5, rfl, hA, KQ.refl _ _⟩
  | succ d ih =>
    intro i s x5 A I hi l hA
    have e1 : A 0 1 = nI a := by rw [l.1]; exact F.2.2.2.1
    have e2 : A 0 2 = nI sg := by rw [l.1]; exact F.2.2.2.2.2.1
    obtain ⟨es, hs32⟩ := skE_i sg F.sg32 p (by omega) q (by omega) i (by omega)
    have l' := l.sag (skN sg p q i)
    have hs := m_sayer (h := h) (m := m) (u := u) (v := v) l' hn hn (by omega) (by have := F.rs32; omega) ha
    have hc : sayR n (mQ f idN (fK f) (fS f) (skN sg p q i) rs) (WF f) a = sayR n (ropU (RF f sg rs) 5 (prG ((RF f sg rs) 5) p q i)) (WF f) a := by
      refine sayR_cong hn ?_ (WEq_refl _) ha
      intro j hj c hc
      match j, hj with
      | 0, _ => rfl
      | 1, _ => rfl
      | 2, _ => rfl
      | 3, _ => rfl
      | 4, _ => rfl
      | 5, _ => exact skN_b sg F.sg32 p (by omega) q (by omega) i (by omega) hpq c (by omega)
      | 6, _ => rfl
      | k + 7, hj => omega
    have k1 : KQ A I (ropU A 9 (upd (A 9) i (sayR n (ropU (RF f sg rs) 5 (prG ((RF f sg rs) 5) p q i)) (WF f) a))) (upd I 10 (nI (skN sg p q i))) := (KQ.row A I _ (by omega)).trans (KQ.int _ I _ (by decide))
    obtain ⟨A', I', y5, e3, r3, k3⟩ := ih (i + 1) (skN sg p q i) (some (.int ((nI sg &&& (((1 : Int32) <<< (nI p &&& 31)) ^^^ (-1 : Int32))) &&& (((1 : Int32) <<< (nI q &&& 31)) ^^^ (-1 : Int32))))) (ropU A 9 (upd (A 9) i (sayR n (ropU (RF f sg rs) 5 (prG ((RF f sg rs) 5) p q i)) (WF f) a))) (upd I 10 (nI (skN sg p q i))) (by omega) (l'.row _ (by omega)) (by
      intro j hj
      rw [ropU_at]
      unfold upd
      split
      · rename_i e; rw [e]
      · exact hA j (by omega))
    refine ⟨A', I', y5, ?_, r3, k1.trans k3⟩
    have e4 : (((nI sg &&& (((1 : Int32) <<< (nI p &&& 31)) ^^^ (-1 : Int32))) &&& (((1 : Int32) <<< (nI q &&& 31)) ^^^ (-1 : Int32))) ||| ((nI i &&& (1 : Int32)) <<< (nI p &&& 31))) ||| ((nI i >>> ((1 : Int32) &&& 31)) <<< (nI q &&& 31)) = nI (skN sg p q i) := es
    rw [q_M_rests_53, if_neg (show ¬ (4 : Int32) ≤ nI i from nI_ge (b := 4) (by omega) (by decide)), mr_0, ml_0_2, e2, e4, mp_10, mr_14, mr_0, ml_0_1, e1, mc, hs, cI_some, ma_9 (by omega), nI_1, hc, e3]
theorem m_rest_end {A : Nat → Nat → Int32} {I : Nat → Int32} (x y : Int32) (S : Nat → Int32) (hS : ∀ j, j < 4 → A 9 j = S j) : ∀ (d i : Nat) (acc : Int32) (x5 x6 : Option Value), i + d = 4 → pt_M_rests_125 m x y acc (nI i) x5 x6 (mH h m A I u v) = some (some (.int (mrL S x y d i acc)), mH h m A I u v) := by
  intro d
  induction d with
  | zero =>
    intro i acc x5 x6 hi
    rw [q_M_rests_125, if_pos (show (4 : Int32) ≤ nI i from nI_le (a := 4) (by omega) (by omega))]
    rfl
  | succ d ih =>
    intro i acc x5 x6 hi
    obtain ⟨a1, a2⟩ := nI_xor1 i (by omega)
    obtain ⟨b1, b2⟩ := nI_xor2 i (by omega)
    have g1 : ∀ t0 t1, pt_M_rests_191 m x y acc (nI i) t0 x6 t1 (mH h m A I u v) = some (some (.int (mrL S x y d (i + 1) (if t0 = 0 then acc else if t1 = 0 then acc else acc ||| (1 <<< (nI i &&& 31))))), mH h m A I u v) := fun t0 t1 => by
      rw [q_M_rests_191, or_0, nI_1, ih _ _ _ _ (by omega), ih _ _ _ _ (by omega)]
      by_cases h1 : t0 = 0
      · rw [if_pos h1, if_pos h1]
      · rw [if_neg h1, if_neg h1]
        by_cases h2 : t1 = 0
        · rw [if_pos h2, if_pos h2]
        · rw [if_neg h2, if_neg h2]
    have g2 : ∀ t0, pt_M_rests_160 m x y acc (nI i) x5 x6 t0 (mH h m A I u v) = some (some (.int (mrL S x y d (i + 1) (if t0 = 0 then acc else if mrO S y i 2 = 0 then acc else acc ||| (1 <<< (nI i &&& 31))))), mH h m A I u v) := fun t0 => by
      rw [q_M_rests_160, mr_14, ml_9 (by omega), hS i (by omega), mr_14, b1, ml_9 b2, hS _ b2, g1, g1]
      unfold mrO
      by_cases h1 : S i = y
      · rw [if_pos h1, if_pos h1]
      · rw [if_neg h1, if_neg h1]
        by_cases h2 : S (i ^^^ 2) = y
        · rw [if_pos h2, if_pos h2]
        · rw [if_neg h2, if_neg h2]
    rw [q_M_rests_125, if_neg (show ¬ (4 : Int32) ≤ nI i from nI_ge (b := 4) (by omega) (by decide)), mr_14, ml_9 (by omega), hS i (by omega), mr_14, a1, ml_9 a2, hS _ a2, g2, g2, mrL]
    generalize hm : (if mrO S y i 2 = 0 then acc else acc ||| (1 <<< (nI i &&& 31))) = w
    unfold mrO
    by_cases h1 : S i = x
    · rw [if_pos h1, if_pos h1]
    · rw [if_neg h1, if_neg h1]
      by_cases h2 : S (i ^^^ 1) = x
      · rw [if_pos h2, if_pos h2]
      · rw [if_neg h2, if_neg h2]
end
theorem wsL_eq (S : Nat → Int32) (x : Int32) : wsL S x 4 0 0 = wsX (decide (S 0 = x)) (decide (S 1 = x)) (decide (S 2 = x)) (decide (S 3 = x)) := by
  simp only [wsX, wsL, decide_eq_true_eq]
theorem mrL_eq (S : Nat → Int32) (x y : Int32) : mrL S x y 4 0 0 = mrX (decide (S 0 = x)) (decide (S 1 = x)) (decide (S 2 = x)) (decide (S 3 = x)) (decide (S 0 = y)) (decide (S 1 = y)) (decide (S 2 = y)) (decide (S 3 = y)) := by
  have e : ∀ z i j k, i ^^^ j = k → mrO S z i j = moX (decide (S i = z)) (decide (S k = z)) := fun z i j k h => by
    subst h
    simp only [mrO, moX, decide_eq_true_eq]
  simp only [mrL, mrX, mtX, e x 0 1 1 rfl, e y 0 2 2 rfl, e x 1 1 0 rfl, e y 1 2 3 rfl, e x 2 1 3 rfl, e y 2 2 0 rfl, e x 3 1 2 rfl, e y 3 2 1 rfl, Nat.zero_add, Nat.reduceAdd]
theorem prX_eq : ∀ a0 a1 a2 a3 b0 b1 b2 b3 : Bool, prL (wsX a0 a1 a2 a3) (wsX b0 b1 b2 b3) 4 0 0 = mrX a0 a1 a2 a3 b0 b1 b2 b3 := by decide +kernel
theorem m_rests {h : ab_H} {m : Nat} {u v : Int64} {f : Nat → Int32} {n a rs sg : Nat} {A : Nat → Nat → Int32} {I : Nat → Int32} (F : Fo f n a sg rs) (ha : a < 8) {p q : Nat} (hp : p < n) (hq : q < n) (hpq : p ≠ q) (hA : A 0 = f) : ∃ A' I', (ab_cV (fn_M_layRope m (mH h m A I u v)) fun h11 => pt_M_rests_53 m (nI p) (nI q) (0 : Int32) (0 : Int32) none none h11) = some (some (.int (rstV n (RF f sg rs) (WF f) a p q)), mH h m A' I' u v) ∧ KQ A I A' I' := by
  obtain ⟨A1, I1, e1, l1, k1⟩ := F.lay (h := h) (m := m) (u := u) (v := v) (I := I) hA
  obtain ⟨A2, I2, y5, e2, r2, k2⟩ := m_rest_loop (h := h) (m := m) (u := u) (v := v) F ha hp hq hpq none 4 0 sg none A1 I1 (by omega) l1 (fun j hj => absurd hj (Nat.not_lt_zero j))
  have e3 := m_rest_end (h := h) (m := m) (u := u) (v := v) (I := I2) (nI p) (nI q) _ r2 4 0 0 y5 none (by omega)
  rw [nI_0] at e2 e3
  refine ⟨A2, I2, ?_, k1.trans k2⟩
  rw [e1, cV_some, e2, e3]
  unfold rstV
  rw [wsL_eq, wsL_eq, prX_eq, mrL_eq]
section
variable {h : ab_H} {m : Nat} {u v : Int64} {f : Nat → Int32} {n a rs sg : Nat} {A : Nat → Nat → Int32} {K S : Nat → Int32}
theorem m_path58 (hn : n ≤ 5) (hrs : rs < 256) (hw : WallOk (WF f)) : ∀ (F b c s : Nat) (I : Nat → Int32), 8 ≤ b + F → b ≤ 8 → s < 256 → Lay f n n idN K S s rs A I → ∃ I', pt_M_path_58 m (-1) (nI b) (nI c) (mH h m A I u v) = some (some (.int (nI (c + wkN n (WF f) F (mQ f idN K S s rs) b))), mH h m A I' u v) ∧ KQ A I A I' := by
  intro F
  induction F with
  | zero =>
    intro b c s I hb hb8 hs l
    rw [q_M_path_58, if_pos rfl, if_pos (show (8 : Int32) ≤ nI b from nI_le (a := 8) (by omega) (by omega)), q_M_path_86, if_pos rfl]
    exact ⟨I, rfl, KQ.refl _ _⟩
  | succ F ih =>
    intro b c s I hb hb8 hs l
    rw [q_M_path_58, if_pos rfl, wkN]
    by_cases h8 : 8 ≤ b
    · rw [if_pos (show (8 : Int32) ≤ nI b from nI_le (a := 8) (by omega) (by omega)), q_M_path_86, if_pos rfl, if_pos h8]
      exact ⟨I, rfl, KQ.refl _ _⟩
    · obtain ⟨en, n1, n2⟩ := nx_is (n := n) (Q := mQ f idN K S s rs) hw (show b < 8 by omega)
      obtain ⟨I', e1, k1⟩ := ih (nxN n (mQ f idN K S s rs) (WF f) b) (c + 1) 0 _ (by omega) n2 (by omega) (l.sag 0)
      rw [if_neg (show ¬ (8 : Int32) ≤ nI b from nI_ge (b := 8) (by omega) (by decide)), if_neg h8, mc, m_nextOf l hn hn hs hrs (by omega), cI_some, mp_10, en, nI_1, mQ_sag]
      refine ⟨I', ?_, (KQ.int A I _ (by decide)).trans k1⟩
      rw [show c + (wkN n (WF f) F (mQ f idN K S 0 rs) (nxN n (mQ f idN K S s rs) (WF f) b) + 1) = c + 1 + wkN n (WF f) F (mQ f idN K S 0 rs) (nxN n (mQ f idN K S s rs) (WF f) b) by omega]
      exact e1
theorem path_cmp {c k : Nat} (hc : c < 2 ^ 31) (hk : k < 2 ^ 31) : lg_cmp (Int32.toInt64 (nI c)) (Int32.toInt64 (nI k) + 1) = 0 ↔ c = k + 1 := by
  rw [lg_cmp_eq, nI_l hc, nI_l hk, lN_1, pk_lEQ (by omega) (by omega)]
theorem path_ne {k : Nat} (hk : k < 2 ^ 31) : ¬ nI k = (-1 : Int32) := nI_ne_m1 hk
theorem m_path_at {I : Nat → Int32} {b c k : Nat} (hc : c < 2 ^ 31) (hk : k < 2 ^ 31) : pt_M_path_58 m (nI k) (nI b) (nI c) (mH h m A I u v) = some (some (.int (if c = k + 1 then nI b else -5)), mH h m A I u v) := by
  rw [q_M_path_58, if_neg (path_ne hk), q_M_path_86, if_neg (path_ne hk)]
  simp only [path_cmp hc hk]
  split <;> rfl
theorem m_path25 (hn : n ≤ 5) (hrs : rs < 256) (hw : WallOk (WF f)) {k : Nat} (hk : k < 2 ^ 31) : ∀ (F b c s : Nat) (I : Nat → Int32), 8 ≤ b + F → b ≤ 8 → c + F ≤ 100 → c ≤ k → s < 256 → Lay f n n idN K S s rs A I → ∃ I', pt_M_path_25 m (nI k) (nI b) (nI c) (mH h m A I u v) = some (some (.int (if k - c < wkN n (WF f) F (mQ f idN K S s rs) b then nI (wkS n (WF f) F (mQ f idN K S s rs) b (k - c)) else -5)), mH h m A I' u v) ∧ KQ A I A I' := by
  intro F
  induction F with
  | zero =>
    intro b c s I hb hb8 hF hck hs l
    rw [q_M_path_25, if_pos (show (8 : Int32) ≤ nI b from nI_le (a := 8) (by omega) (by omega)), m_path_at (by omega) hk, if_neg (show ¬ c = k + 1 by omega), wkN, if_neg (Nat.not_lt_zero _)]
    exact ⟨I, rfl, KQ.refl _ _⟩
  | succ F ih =>
    intro b c s I hb hb8 hF hck hs l
    rw [q_M_path_25]
    simp only [path_cmp (show c < 2 ^ 31 by omega) hk]
    rw [if_neg (show ¬ c = k + 1 by omega), wkN]
    by_cases h8 : 8 ≤ b
    · rw [if_pos (show (8 : Int32) ≤ nI b from nI_le (a := 8) (by omega) (by omega)), m_path_at (by omega) hk, if_neg (show ¬ c = k + 1 by omega), if_pos h8, if_neg (Nat.not_lt_zero _)]
      exact ⟨I, rfl, KQ.refl _ _⟩
    · obtain ⟨en, n1, n2⟩ := nx_is (n := n) (Q := mQ f idN K S s rs) hw (show b < 8 by omega)
      rw [if_neg (show ¬ (8 : Int32) ≤ nI b from nI_ge (b := 8) (by omega) (by decide)), if_neg h8, mc, m_nextOf l hn hn hs hrs (by omega), cI_some, mp_10, en, nI_1]
      by_cases hc : c = k
      · subst hc
        rw [Nat.sub_self, if_pos (Nat.succ_pos _), wkS, q_M_path_25]
        simp only [path_cmp (show c + 1 < 2 ^ 31 by omega) hk]
        rw [if_true, m_path_at (by omega) hk, if_pos rfl, ite_self]
        exact ⟨_, rfl, KQ.int A I _ (by decide)⟩
      · obtain ⟨I', e1, k1⟩ := ih (nxN n (mQ f idN K S s rs) (WF f) b) (c + 1) 0 _ (by omega) n2 (by omega) (by omega) (by omega) (l.sag 0)
        refine ⟨I', ?_, (KQ.int A I _ (by decide)).trans k1⟩
        rw [show k - c = k - (c + 1) + 1 by omega, wkS, mQ_sag]
        refine Eq.trans e1 ?_
        by_cases hq : k - (c + 1) < wkN n (WF f) F (mQ f idN K S 0 rs) (nxN n (mQ f idN K S s rs) (WF f) b)
        · rw [if_pos hq, if_pos (by omega)]
        · rw [if_neg hq, if_neg (by omega)]
end
theorem m_pathN {h : ab_H} {m : Nat} {u v : Int64} {f : Nat → Int32} {n a rs sg : Nat} {A : Nat → Nat → Int32} {I : Nat → Int32} (F : Fo f n a sg rs) (hw : WallOk (WF f)) (hA : A 0 = f) : ∃ A' I', fn_M_path m (-1) (mH h m A I u v) = some (some (.int (nI (wkN n (WF f) 8 (RF f sg rs) a))), mH h m A' I' u v) ∧ KQ A I A' I' := by
  obtain ⟨A1, I1, e1, l1, k1⟩ := F.lay (h := h) (m := m) (u := u) (v := v) (I := I) hA
  obtain ⟨I2, e2, k2⟩ := m_path58 (h := h) (m := m) (u := u) (v := v) F.1 (by have := F.rs32; omega) hw 8 a 0 sg I1 (by omega) F.2.2.1 (by have := F.sg32; omega) l1
  rw [nI_0, Nat.zero_add] at e2
  have e5 : A 0 1 = nI a := by rw [hA]; exact F.2.2.2.1
  refine ⟨A1, I2, ?_, k1.trans k2⟩
  rw [q_M_path, if_pos (by decide), mr_0, ml_0_1, mc, e1, cV_some, e5, q_M_path_25, if_pos (show lg_cmp (Int32.toInt64 0) (Int32.toInt64 (-1) + 1) = 0 by decide), e2, ite_self]
  rfl
theorem m_pathK {h : ab_H} {m : Nat} {u v : Int64} {f : Nat → Int32} {n a rs sg : Nat} {A : Nat → Nat → Int32} {I : Nat → Int32} (F : Fo f n a sg rs) (hw : WallOk (WF f)) (hA : A 0 = f) {k : Nat} (hk : k < 2 ^ 31) : ∃ A' I', fn_M_path m (nI k) (mH h m A I u v) = some (some (.int (if k < wkN n (WF f) 8 (RF f sg rs) a then nI (wkS n (WF f) 8 (RF f sg rs) a k) else -5)), mH h m A' I' u v) ∧ KQ A I A' I' := by
  obtain ⟨A1, I1, e1, l1, k1⟩ := F.lay (h := h) (m := m) (u := u) (v := v) (I := I) hA
  obtain ⟨I2, e2, k2⟩ := m_path25 (h := h) (m := m) (u := u) (v := v) F.1 (by have := F.rs32; omega) hw hk 8 a 0 sg I1 (by omega) F.2.2.1 (by omega) (by omega) (by have := F.sg32; omega) l1
  rw [nI_0, Nat.sub_zero] at e2
  have e5 : A 0 1 = nI a := by rw [hA]; exact F.2.2.2.1
  have hle : (-1 : Int32) ≤ nI k := by
    rw [Int32.le_iff_toInt_le, nI_toInt hk]
    have : (-1 : Int32).toInt = -1 := by decide
    omega
  refine ⟨A1, I2, ?_, k1.trans k2⟩
  rw [q_M_path, if_pos hle, mr_0, ml_0_1, mc, e1, cV_some, e5, e2]
  rfl
