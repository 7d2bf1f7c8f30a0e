/-! the reference: slips, the fraction, drawn walls -/
theorem lN_m10 (i : Nat) : lN (10 ^ i) * (10 : Int64) = lN (10 ^ (i + 1)) := by
  rw [Nat.pow_succ, ← lN_mul]
  rfl
theorem ladd_0 (x : Int64) : x + 0 = x := Int64.add_zero x
theorem WEq_refl (W : Nat → Nat → Int32) : WEq W W := fun _ _ _ _ => rfl
section
variable {h : ab_H} {m : Nat} {u v : Int64} {f : Nat → Int32} {n a rs sg : Nat} {A : Nat → Nat → Int32} {K S : Nat → Int32}
theorem m_every {I : Nat → Int32} (x c : Int32) (s : Int64) (hn : n ≤ 5) (e0 : A 0 0 = nI n) (x8 x9 x10 : Option Value) : ∀ (d i : Nat), i + d = n → pt_M_slips_55 m x c s (lN (10 ^ i)) (nI i) x8 x9 x10 (mH h m A I u v) = pt_M_slips_81 m x c s (lN (10 ^ n)) 0 x8 x9 x10 (mH h m A I u v) := by
  intro d
  induction d with
  | zero =>
    intro i hi
    have e : i = n := by omega
    subst e
    rw [q_M_slips_55, mc, m_many, cI_some, e0, if_pos (nI_le (by omega) (by omega))]
  | succ d ih =>
    intro i hi
    rw [q_M_slips_55, mc, m_many, cI_some, e0, if_neg (nI_ge (by omega) (by omega)), lN_m10, nI_1]
    exact ih (i + 1) (by omega)
theorem m_case_loop {I : Nat → Int32} (x c : Int32) (s ev : Int64) (hn : n ≤ 5) (e0 : A 0 0 = nI n) {sl : Nat} (hs : sl < 32) : ∀ (d k : Nat) (cs : Int64), k + d = n → pt_M_slips_96 m x c s ev (nI sl) cs (nI k) (mH h m A I u v) = pt_M_slips_96 m x c s ev (nI sl) (sliL sl c d k cs) (nI n) (mH h m A I u v) := by
  intro d
  induction d with
  | zero =>
    intro k cs hk
    have e : k = n := by omega
    subst e
    rfl
  | succ d ih =>
    intro k cs hk
    rw [q_M_slips_96, mc, m_many, cI_some, e0, if_neg (nI_ge (by omega) (by omega)), m_hasb (by omega) (by omega), cI_some, nI_1, sliL]
    rcases bt_01 sl k with e | e
    · rw [e, if_pos rfl, if_neg (by decide)]
      exact ih (k + 1) _ (by omega)
    · rw [e, if_neg (by decide), if_pos rfl]
      exact ih (k + 1) _ (by omega)
theorem mQ_rest_eq (n : Nat) (f : Nat → Int32) (K S : Nat → Int32) (sg rs s : Nat) : REq n (mQ f idN K S sg s) (ropU (mQ f idN K S sg rs) 6 (bt1 s)) := by
  intro j hj i hi
  match j, hj with
  | 0, _ => rfl
  | 1, _ => rfl
  | 2, _ => rfl
  | 3, _ => rfl
  | 4, _ => rfl
  | 5, _ => rfl
  | 6, _ => rfl
  | k + 7, hj => omega
theorem m_slip_loop (F : Fo f n a sg rs) (ha : a < 8) (x c : Int32) (ev : Int64) : ∀ (d i : Nat) (acc : Int64) (r : Nat) (x8 x9 x10 : Option Value) (I : Nat → Int32), i + d = 2 ^ n → Lay f n n idN (fK f) (fS f) sg r A I → ∃ I', pt_M_slips_81 m x c acc ev (nI i) x8 x9 x10 (mH h m A I u v) = (ab_cV (fn_M_fraction m (casL n rs (RF f sg rs) (WF f) a x c d i acc) ev (mH h m A I' u v)) fun h3 => some (some (.int (1 : Int32)), h3)) ∧ KQ A I A I' := by
  have hn := F.1
  have h32 := pow_le32 hn
  have h1 : 0 < 2 ^ n := Nat.pow_pos (by decide)
  intro d
  induction d with
  | zero =>
    intro i acc r x8 x9 x10 I hi l
    have e0 : A 0 0 = nI n := by rw [l.1]; exact F.2.1
    rw [q_M_slips_81, mc, m_all hn e0, cI_some, if_pos (nI_lt (by omega) (by omega)), mc]
    exact ⟨I, rfl, KQ.refl _ _⟩
  | succ d ih =>
    intro i acc r x8 x9 x10 I hi l
    have e0 : A 0 0 = nI n := by rw [l.1]; exact F.2.1
    have e1 : A 0 1 = nI a := by rw [l.1]; exact F.2.2.2.1
    have e3 : A 0 3 = nI rs := by rw [l.1]; exact F.2.2.2.2.2.2.2
    have hl := m_case_loop (h := h) (m := m) (u := u) (v := v) (I := I) x c acc ev hn e0 (sl := i) (by omega) n 0 1 (by omega)
    rw [nI_0] at hl
    have l' := l.rest (adn rs i)
    have hs := m_sayer (h := h) (m := m) (u := u) (v := v) l' hn hn (by have := F.sg32; omega) (by have := adn_lt rs F.rs32 i (by omega); omega) ha
    have hq : sayR n (mQ f idN (fK f) (fS f) sg (adn rs i)) (WF f) a = sayR n (ropU (RF f sg rs) 6 (bt1 (adn rs i))) (WF f) a := sayR_cong hn (mQ_rest_eq n f (fK f) (fS f) sg rs (adn rs i)) (WEq_refl _) ha
    rw [q_M_slips_81, mc, m_all hn e0, cI_some, if_neg (nI_nlt (by omega) (by omega)), hl, q_M_slips_96, mc, m_many, cI_some, e0, if_pos (nI_le (by omega) (by omega)), mr_0, ml_0_3, e3, adn_i rs F.rs32 i (by omega), mp_11, mr_0, ml_0_1, e1, mc, hs, cI_some, nI_1, ladd_0, hq, casL]
    split
    · obtain ⟨I', e2, k2⟩ := ih (i + 1) (acc + sliL i c n 0 1) (adn rs i) (some (.long (sliL i c n 0 1))) (some (.float 0)) (some (.int (nI n))) _ (by omega) l'
      exact ⟨I', e2, (KQ.int A I _ (by decide)).trans k2⟩
    · obtain ⟨I', e2, k2⟩ := ih (i + 1) acc (adn rs i) (some (.long (sliL i c n 0 1))) (some (.float 0)) (some (.int (nI n))) _ (by omega) l'
      exact ⟨I', e2, (KQ.int A I _ (by decide)).trans k2⟩
theorem m_frac_loop {I : Nat → Int32} (x y : Int64) : ∀ (b q p : Nat) (x9 x10 : Option Value), q < b → p < 2 ^ 63 → q < 2 ^ 63 → 0 < Nat.gcd p q → pt_M_fraction_6 m x y (lN p) (lN q) x9 x10 (mH h m A I u v) = some (none, mH h m A I (x / lN (Nat.gcd p q)) (y / lN (Nat.gcd p q))) := by
  intro b
  induction b with
  | zero => intro q p x9 x10 hb; omega
  | succ b ih =>
    intro q p x9 x10 hb hp hq hg
    have z : (lN q = 0) ↔ q = 0 := pk_lEQ (b := 0) hq (by decide)
    rw [q_M_fraction_6]
    simp only [lg_cmp_eq]
    by_cases h0 : q = 0
    · subst h0
      rw [Nat.gcd_zero_right] at hg ⊢
      have z2 : ¬ lN p = 0 := fun e => by
        have := (pk_lEQ (b := 0) hp (by decide)).mp e
        omega
      rw [if_pos (z.mpr rfl), if_neg z2, mp_4, if_neg z2, mp_5]
    · rw [if_neg (fun e => h0 (z.mp e)), if_neg (fun e => h0 (z.mp e)), pk_lRem hp (by omega) hq]
      have hm : p % q < q := Nat.mod_lt _ (by omega)
      have hgg : Nat.gcd p q = Nat.gcd q (p % q) := by
        rw [Nat.gcd_comm p q, Nat.gcd_rec q p, Nat.gcd_comm]
      rw [hgg] at hg ⊢
      exact ih (p % q) q _ _ (by omega) hq (by omega) hg
theorem m_fraction {I : Nat → Int32} {p q : Nat} (hp : p < 2 ^ 63) (hq : q < 2 ^ 63) (hg : 0 < q) : fn_M_fraction m (lN p) (lN q) (mH h m A I u v) = some (none, mH h m A I (lN p / lN (Nat.gcd p q)) (lN q / lN (Nat.gcd p q))) := by
  rw [q_M_fraction]
  exact m_frac_loop (lN p) (lN q) (q + 1) q p none none (by omega) hp hq (Nat.gcd_pos_of_pos_right _ hg)
end
theorem and_all : ∀ n, n < 6 → ∀ s, s < 32 → nI s &&& nI (2 ^ n - 1) = nI (s % 2 ^ n) := by decide +kernel
theorem bt_mod : ∀ n, n < 6 → ∀ s, s < 32 → ∀ c, c < n → bt1 (s % 2 ^ n) c = bt1 s c := by decide +kernel
theorem mQ_mod {n : Nat} (hn : n ≤ 5) (f : Nat → Int32) (K S : Nat → Int32) (rs : Nat) {s : Nat} (hs : s < 32) : REq n (mQ f idN K S (s % 2 ^ n) rs) (mQ f idN K S s rs) := by
  intro j hj i hi
  match j, hj with
  | 0, _ => rfl
  | 1, _ => rfl
  | 2, _ => rfl
  | 3, _ => rfl
  | 4, _ => rfl
  | 5, _ => exact bt_mod n (by omega) s hs i hi
  | 6, _ => rfl
  | k + 7, hj => omega
section
variable {h : ab_H} {m : Nat} {u v : Int64} {f : Nat → Int32} {n a rs sg : Nat} {A : Nat → Nat → Int32}
theorem m_tw_loop (F : Fo f n a sg rs) (hw : WallOk (WF f)) (sd tn p tm ti : Int32) : ∀ (fu X b : Nat) (c : Int32) (s : Nat) (I : Nat → Int32), 8 ≤ b + fu → b ≤ 8 → X < 2 ^ 31 → Lay f n n idN (fK f) (fS f) s rs A I → ∃ I' s' x8 x9, pt_M_walls_84 m sd tn p (lN X) tm ti (nI b) c (mH h m A I u v) = pt_M_walls_57 m sd tn p (lN (twL n (WF f) (RF f sg rs) p fu X b c).1) (if (twL n (WF f) (RF f sg rs) p fu X b c).2 = 0 then tm + 0 else tm + 1) (ti + 1) x8 x9 (mH h m A I' u v) ∧ Lay f n n idN (fK f) (fS f) s' rs A I' ∧ KQ A I A I' := by
  have hn := F.1
  have z1 : ¬ (2147483648 : Int64) = 0 := by decide
  have z2 : ¬ (65536 : Int64) = 0 := by decide
  have z3 : ¬ (32 : Int64) = 0 := by decide
  intro fu
  induction fu with
  | zero =>
    intro X b c s I hb hb8 hX l
    rw [q_M_walls_84, if_pos (show (8 : Int32) ≤ nI b from nI_le (a := 8) (by omega) (by omega))]
    rw [show twL n (WF f) (RF f sg rs) p 0 X b c = (X, c) from rfl]
    refine ⟨I, s, some (.int (nI b)), some (.int c), ?_, l, KQ.refl _ _⟩
    by_cases hc : c = 0
    · rw [if_pos hc, if_pos hc]
    · rw [if_neg hc, if_neg hc]
  | succ fu ih =>
    intro X b c s I hb hb8 hX l
    rw [twL]
    by_cases h8 : 8 ≤ b
    · rw [q_M_walls_84, if_pos (show (8 : Int32) ≤ nI b from nI_le (a := 8) (by omega) (by omega)), if_pos h8]
      refine ⟨I, s, some (.int (nI b)), some (.int c), ?_, l, KQ.refl _ _⟩
      by_cases hc : c = 0
      · rw [if_pos hc, if_pos hc]
      · rw [if_neg hc, if_neg hc]
    · rw [if_neg h8]
      have e0 : A 0 0 = nI n := by rw [l.1]; exact F.2.1
      have hm : lcg X / 65536 % 32 < 32 := Nat.mod_lt _ (by decide)
      have hml : lcg X / 65536 % 32 % 2 ^ n ≤ lcg X / 65536 % 32 := Nat.mod_le _ _
      have l' := l.sag (lcg X / 65536 % 32 % 2 ^ n)
      have hnx := m_nextOf (h := h) (m := m) (u := u) (v := v) l' hn hn (by omega) (by have := F.rs32; omega) (p := b) (by omega)
      have hq : nxtR n (mQ f idN (fK f) (fS f) (lcg X / 65536 % 32 % 2 ^ n) rs) (WF f) b = nI (nxN n (ropU (RF f sg rs) 5 (bt1 (lcg X / 65536 % 32))) (WF f) b) := by
        rw [nxtR_cong hn (mQ_mod hn f (fK f) (fS f) rs hm) (WEq_refl _) (show b < 8 by omega)]
        unfold RF
        rw [mQ_sag]
        exact (nx_is hw (by omega)).1
      have hle := (nx_is (n := n) (Q := ropU (RF f sg rs) 5 (bt1 (lcg X / 65536 % 32))) hw (show b < 8 by omega)).2
      rw [q_M_walls_84, if_neg (show ¬ (8 : Int32) ≤ nI b from nI_ge (b := 8) (by omega) (by decide)), if_neg z1, if_neg z2, if_neg z3, mc, m_all hn e0, cI_some, lcg_is hX, lcg_bits (lcg_lt X), and_all n (by omega) _ hm, mp_10, mc, hnx, cI_some, hq]
      have go : ∀ c', ∃ I' s' x8 x9, pt_M_walls_84 m sd tn p (lN (lcg X)) tm ti (nI (nxN n (ropU (RF f sg rs) 5 (bt1 (lcg X / 65536 % 32))) (WF f) b)) c' (mH h m A (upd I 10 (nI (lcg X / 65536 % 32 % 2 ^ n))) u v) = pt_M_walls_57 m sd tn p (lN (twL n (WF f) (RF f sg rs) p fu (lcg X) (nxN n (ropU (RF f sg rs) 5 (bt1 (lcg X / 65536 % 32))) (WF f) b) c').1) (if (twL n (WF f) (RF f sg rs) p fu (lcg X) (nxN n (ropU (RF f sg rs) 5 (bt1 (lcg X / 65536 % 32))) (WF f) b) c').2 = 0 then tm + 0 else tm + 1) (ti + 1) x8 x9 (mH h m A I' u v) ∧ Lay f n n idN (fK f) (fS f) s' rs A I' ∧ KQ A I A I' := fun c' => by
        obtain ⟨I2, s2, x8, x9, e2, l2, k2⟩ := ih (lcg X) (nxN n (ropU (RF f sg rs) 5 (bt1 (lcg X / 65536 % 32))) (WF f) b) c' _ _ (by omega) hle.2 (lcg_lt X) l'
        exact ⟨I2, s2, x8, x9, e2, l2, (KQ.int A I _ (by decide)).trans k2⟩
      by_cases hc : c = 0
      · rw [if_pos hc, if_pos hc]
        by_cases hp : nI (nxN n (ropU (RF f sg rs) 5 (bt1 (lcg X / 65536 % 32))) (WF f) b) = p
        · rw [if_pos hp, if_pos hp]
          exact go _
        · rw [if_neg hp, if_neg hp]
          exact go _
      · rw [if_neg hc, if_neg hc]
        exact go _
theorem m_tm_loop (F : Fo f n a sg rs) (hw : WallOk (WF f)) (sd p : Int32) {T : Nat} (hT : T ≤ 60) : ∀ (d i X : Nat) (t : Int32) (x8 x9 : Option Value) (s : Nat) (I : Nat → Int32), i + d = T → X < 2 ^ 31 → Lay f n n idN (fK f) (fS f) s rs A I → ∃ I', pt_M_walls_57 m sd (nI T) p (lN X) t (nI i) x8 x9 (mH h m A I u v) = some (some (.int (tmL n (WF f) (RF f sg rs) a p d X t)), mH h m A I' u v) ∧ KQ A I A I' := by
  intro d
  induction d with
  | zero =>
    intro i X t x8 x9 s I hi hX l
    rw [q_M_walls_57, if_pos (nI_le (by omega) (by omega))]
    exact ⟨I, rfl, KQ.refl _ _⟩
  | succ d ih =>
    intro i X t x8 x9 s I hi hX l
    have e1 : A 0 1 = nI a := by rw [l.1]; exact F.2.2.2.1
    rw [q_M_walls_57, if_neg (nI_ge (by omega) (by omega)), mr_0, ml_0_1, e1, tmL]
    have go : ∀ c, ∃ I', pt_M_walls_84 m sd (nI T) p (lN X) t (nI i) (nI a) c (mH h m A I u v) = some (some (.int (tmL n (WF f) (RF f sg rs) a p d (twL n (WF f) (RF f sg rs) p 8 X a c).1 (if (twL n (WF f) (RF f sg rs) p 8 X a c).2 = 0 then t + 0 else t + 1))), mH h m A I' u v) ∧ KQ A I A I' := fun c => by
      obtain ⟨I1, s1, y8, y9, e2, l2, k2⟩ := m_tw_loop (h := h) (m := m) (u := u) (v := v) F hw sd (nI T) p t (nI i) 8 X a c s I (by omega) F.2.2.1 hX l
      obtain ⟨I2, e3, k3⟩ := ih (i + 1) _ _ y8 y9 s1 I1 (by omega) (twL_lt n (WF f) (RF f sg rs) p 8 X a c hX) l2
      rw [e2, nI_1, e3]
      exact ⟨I2, rfl, k2.trans k3⟩
    split
    · exact go _
    · exact go _
end
