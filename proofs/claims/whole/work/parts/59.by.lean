/-! the fewest sags: the costs, the least set -/
section
variable {n p : Nat} {V Q : Nat → Nat → Int32}
theorem fsF_up (j : Nat) {q : Nat} (hq : p - 1 - j ≠ q) : fsF n V Q p (j + 1) q = fsF n V Q p j q := by
  rw [fsF]
  exact up_ne _ _ (Ne.symm hq)
theorem fsF_st (j : Nat) : ∀ (e q : Nat), p - 1 - j < q → fsF n V Q p (j + e) q = fsF n V Q p j q
  | 0, _, _ => rfl
  | e + 1, q, h => by
    rw [show j + (e + 1) = j + e + 1 by omega, fsF_up (j + e) (by omega)]
    exact fsF_st j e q h
theorem fsF_hi (j : Nat) {q : Nat} (hq : p < q) : fsF n V Q p j q = 1000 := by
  have := fsF_st (n := n) (V := V) (Q := Q) (p := p) 0 j q (by omega)
  rw [Nat.zero_add] at this
  rw [this, fsF]
  exact up_ne _ _ (by omega)
theorem fsF_p (j : Nat) (hp : 0 < p) : fsF n V Q p j p = 0 := by
  have := fsF_st (n := n) (V := V) (Q := Q) (p := p) 0 j p (by omega)
  rw [Nat.zero_add] at this
  rw [this, fsF]
  exact up_at _ _ _
theorem fsF_lo {a q : Nat} (h1 : a < q) (h2 : q < p) : fsF n V Q p (p - 1 - a) q = lfL n V Q (fsF n V Q p (p - 1 - q)) 0 q (2 ^ n) 0 32000 >>> ((5 : Int32) &&& 31) := by
  have := fsF_st (n := n) (V := V) (Q := Q) (p := p) (p - 1 - q + 1) (q - a - 1) q (by omega)
  rw [show p - 1 - q + 1 + (q - a - 1) = p - 1 - a by omega] at this
  rw [this, fsF, show p - 1 - (p - 1 - q) = q by omega]
  exact up_at _ _ _
end
section
variable {h : ab_H} {m : Nat} {u v : Int64} {f : Nat → Int32} {n a rs sg : Nat}
theorem m_cost_loop (F : Fo f n a sg rs) (hw : WallOk (WF f)) {p : Nat} (hp : p ≤ 8) (hap : a < p) (wh : Int32) (x5 x6 : Option Value) : ∀ (d s : Nat) (A : Nat → Nat → Int32) (I : Nat → Int32), a + d ≤ 8 → Lay f n n idN (fK f) (fS f) s rs A I → (∀ q, a + d < q → q ≤ 8 → Rq (5 * (8 - q)) (fsF n (WF f) (RF f sg rs) p (p - 1 - a) q) (A 7 q)) → ∃ A' I' s', pt_M_by_60 m (nI p) wh (nI a) (nI (a + d)) x5 x6 (mH h m A I u v) = pt_M_by_60 m (nI p) wh (nI a) (nI a) x5 x6 (mH h m A' I' u v) ∧ Lay f n n idN (fK f) (fS f) s' rs A' I' ∧ (∀ q, a < q → q ≤ 8 → Rq (5 * (8 - q)) (fsF n (WF f) (RF f sg rs) p (p - 1 - a) q) (A' 7 q)) ∧ KQ A I A' I' := by
  intro d
  induction d with
  | zero =>
    intro s A I hd l hr
    exact ⟨A, I, s, rfl, l, hr, KQ.refl _ _⟩
  | succ d ih =>
    intro s A I hd l hr
    have step : ∀ (x : Int32) (J : Nat → Int32) (s' : Nat), Lay f n n idN (fK f) (fS f) s' rs A J → KQ A I A J → Rq (5 * (8 - (a + (d + 1)))) (fsF n (WF f) (RF f sg rs) p (p - 1 - a) (a + (d + 1))) x → ∃ A' I' s', pt_M_by_60 m (nI p) wh (nI a) (nI (a + (d + 1)) + (-1 : Int32)) x5 x6 (mH h m (ropU A 7 (upd (A 7) (a + (d + 1)) x)) J u v) = pt_M_by_60 m (nI p) wh (nI a) (nI a) x5 x6 (mH h m A' I' u v) ∧ Lay f n n idN (fK f) (fS f) s' rs A' I' ∧ (∀ q, a < q → q ≤ 8 → Rq (5 * (8 - q)) (fsF n (WF f) (RF f sg rs) p (p - 1 - a) q) (A' 7 q)) ∧ KQ A I A' I' := by
      intro x J s' l' kj hx
      obtain ⟨A', I', s2, e1, l1, r1, k1⟩ := ih s' (ropU A 7 (upd (A 7) (a + (d + 1)) x)) J (by omega) (l'.row _ (by omega)) (by
        intro q h1 h2
        rw [ropU_at]
        by_cases e : q = a + (d + 1)
        · subst e
          rw [up_at]
          exact hx
        · rw [up_ne _ _ e]
          exact hr q (by omega) h2)
      refine ⟨A', I', s2, ?_, l1, r1, kj.trans ((KQ.row A J _ (by omega)).trans k1)⟩
      rw [show a + (d + 1) = a + d + 1 by omega, nI_m1 (by omega), ← show a + (d + 1) = a + d + 1 by omega]
      exact e1
    rw [q_M_by_60, if_neg (nI_ge (by omega) (by omega)), mr_12]
    by_cases h1 : a + (d + 1) = p
    · rw [if_pos (congrArg nI h1), ma_7 (by omega)]
      refine step 0 I s l (KQ.refl _ _) ?_
      rw [h1, fsF_p _ (by omega)]
      exact Or.inl ⟨0, by omega, rfl, rfl⟩
    · rw [if_neg (fun z => h1 ((nI_eq (by omega) (by omega)).mp z))]
      by_cases h2 : a + (d + 1) ≤ p
      · rw [if_pos (nI_le h2 (by omega)), mc, q_M_fewestAt]
        obtain ⟨I1, s1, e1, l1, k1⟩ := m_few_loop (h := h) (m := m) (u := u) (v := v) F hw (q := a + (d + 1)) (k := 0) (by omega) (by omega) (2 ^ n) 0 1000000 none s I (by omega) l
        rw [nI_0] at e1
        rw [e1, cI_some, ma_7 (by omega)]
        refine step _ I1 s1 l1 k1 ?_
        rw [fsF_lo (by omega) (by omega)]
        have hB : 5 * (8 - (a + (d + 1))) = 5 * (7 - (a + (d + 1))) + 5 := by omega
        rw [hB]
        refine fw_rq (by omega) F.1 (fun i hi => ?_)
        obtain ⟨-, n1, n2⟩ := nx_is (n := n) (Q := ropU (RF f sg rs) 5 (bt1 (i ||| 0))) hw (show a + (d + 1) < 8 by omega)
        have hq := hr _ n1 n2
        have hst := fsF_st (n := n) (V := WF f) (Q := RF f sg rs) (p := p) (p - 1 - (a + (d + 1))) (d + 1) (nxN n (ropU (RF f sg rs) 5 (bt1 (i ||| 0))) (WF f) (a + (d + 1))) (by omega)
        rw [show p - 1 - (a + (d + 1)) + (d + 1) = p - 1 - a by omega] at hst
        rw [hst] at hq
        rcases hq with ⟨c, c1, c2, c3⟩ | c
        · exact Or.inl ⟨c, by omega, c2, c3⟩
        · exact Or.inr c
      · rw [if_neg (nI_ge (by omega) (by omega)), ma_7 (by omega)]
        refine step 1000000 I s l (KQ.refl _ _) ?_
        rw [fsF_hi _ (by omega)]
        exact Or.inr ⟨rfl, rfl⟩
theorem m_find_loop (F : Fo f n a sg rs) (hw : WallOk (WF f)) (ha : a < 8) (p wh : Int32) {A : Nat → Nat → Int32} {cc : Nat → Nat} {y z : Nat} (hcc : ∀ i, i < 2 ^ n → A 7 (nxN n (ropU (RF f sg rs) 5 (bt1 (i ||| sg))) (WF f) a) = nI (cc i)) (hy : y ≤ 100) (hz : z < 2 ^ n) (z1 : nI z &&& nI sg = 0) (z2 : pcN z + cc z = y) (z3 : ∀ j, j < z → nI j &&& nI sg = 0 → y < pcN j + cc j ∧ pcN j + cc j < 2 ^ 31) : ∀ (d i s : Nat) (I : Nat → Int32), i + d = z → Lay f n n idN (fK f) (fS f) s rs A I → ∃ I', pt_M_by_151 m p wh (nI a) (nI y) (nI i) 0 (mH h m A I u v) = some (some (.int (nI z)), mH h m A I' u v) ∧ KQ A I A I' := by
  have hn := F.1
  have h32 := pow_le32 hn
  intro d
  induction d with
  | zero =>
    intro i s I hi l
    have e : i = z := by omega
    subst e
    have e2 : A 0 2 = nI sg := by rw [l.1]; exact F.2.2.2.2.2.1
    obtain ⟨eo, ho⟩ := nI_or i (by omega) sg F.sg32
    have l' := l.sag (i ||| sg)
    have hnx := m_nextOf (h := h) (m := m) (u := u) (v := v) l' hn hn (by omega) (by have := F.rs32; omega) ha
    have hzz : ropU (RF f sg rs) 5 (bt1 (i ||| sg)) = mQ f idN (fK f) (fS f) (i ||| sg) rs := mQ_sag _ _ _ _ _ _
    obtain ⟨en, n1, n2⟩ := nx_is (n := n) (Q := ropU (RF f sg rs) 5 (bt1 (i ||| sg))) hw ha
    rw [← hzz, en] at hnx
    rw [q_M_by_151, if_pos rfl, mr_0, ml_0_2, e2, eo, mp_10, mr_0, ml_0_2, e2, if_pos z1, m_bits (by omega), cI_some, mr_12, mc, hnx, cI_some, ml_7 (by omega), hcc i hz, bcN_pc i (by omega), nI_add, z2, if_pos rfl, q_M_by_207, if_neg (by decide), q_M_by_151, if_neg (by decide), add_0]
    exact ⟨_, rfl, KQ.int A I _ (by decide)⟩
  | succ d ih =>
    intro i s I hi l
    have e2 : A 0 2 = nI sg := by rw [l.1]; exact F.2.2.2.2.2.1
    obtain ⟨eo, ho⟩ := nI_or i (by omega) sg F.sg32
    have l' := l.sag (i ||| sg)
    have hnx := m_nextOf (h := h) (m := m) (u := u) (v := v) l' hn hn (by omega) (by have := F.rs32; omega) ha
    have hzz : ropU (RF f sg rs) 5 (bt1 (i ||| sg)) = mQ f idN (fK f) (fS f) (i ||| sg) rs := mQ_sag _ _ _ _ _ _
    obtain ⟨en, n1, n2⟩ := nx_is (n := n) (Q := ropU (RF f sg rs) 5 (bt1 (i ||| sg))) hw ha
    rw [← hzz, en] at hnx
    obtain ⟨I', e3, k3⟩ := ih (i + 1) _ _ (by omega) l'
    refine ⟨I', ?_, (KQ.int A I _ (by decide)).trans k3⟩
    have nf : pt_M_by_207 m p wh (nI a) (nI y) (nI i) 0 0 (mH h m A (upd I 10 (nI (i ||| sg))) u v) = some (some (.int (nI z)), mH h m A I' u v) := by
      rw [q_M_by_207, if_pos rfl, nI_1, e3]
    rw [q_M_by_151, if_pos rfl, mr_0, ml_0_2, e2, eo, mp_10, mr_0, ml_0_2, e2]
    by_cases hv : nI i &&& nI sg = 0
    · obtain ⟨t1, t2⟩ := z3 i (by omega) hv
      rw [if_pos hv, m_bits (by omega), cI_some, mr_12, mc, hnx, cI_some, ml_7 (by omega), hcc i (by omega), bcN_pc i (by omega), nI_add, if_neg (fun e => by
        have := (nI_eq t2 (by omega)).mp e
        omega), nf]
    · rw [if_neg hv, nf]
def byV (w : Nat) (x : Int32) : Int32 := if x = -1 then -1 else if w = 0 then x >>> ((5 : Int32) &&& 31) else x &&& 31
theorem m_by {A : Nat → Nat → Int32} {I : Nat → Int32} (F : Fo f n a sg rs) (hw : WallOk (WF f)) {p w : Nat} (hp : p ≤ 8) (hap : a < p) (hw1 : w ≤ 1) (hA : A 0 = f) : ∃ A' I', (ab_cV (fn_M_layRope m (mH h m A I u v)) fun h9 => pt_M_by_60 m (nI p) (nI w) (nI a) (8 : Int32) none none h9) = some (some (.int (byV w (fewV n (WF f) (RF f sg rs) a sg p))), mH h m A' I' u v) ∧ KQ A I A' I' := by
  have h32 := pow_le32 F.1
  obtain ⟨A1, I1, e1, l1, k1⟩ := F.lay (h := h) (m := m) (u := u) (v := v) (I := I) hA
  obtain ⟨A2, I2, s2, e2, l2, r2, k2⟩ := m_cost_loop (h := h) (m := m) (u := u) (v := v) F hw hp hap (nI w) none none (8 - a) sg A1 I1 (by omega) l1 (fun q h1 h2 => by omega)
  rw [show a + (8 - a) = 8 by omega] at e2
  obtain ⟨I3, s3, e3, l3, k3⟩ := m_few_loop (h := h) (m := m) (u := u) (v := v) F hw (q := a) (k := sg) (by omega) F.sg32 (2 ^ n) 0 1000000 none s2 I2 (by omega) l2
  rw [nI_0] at e3
  obtain ⟨cc, x, y, hcc, hx, hy, hFI⟩ := fw_all (n := n) (m := sg) (a := a) (B := 5 * (7 - a)) (V := WF f) (Q := RF f sg rs) (F := fsF n (WF f) (RF f sg rs) p (p - 1 - a)) (C := A2 7) (by omega) F.1 (fun i hi => by
    obtain ⟨-, n1, n2⟩ := nx_is (n := n) (Q := ropU (RF f sg rs) 5 (bt1 (i ||| sg))) hw (show a < 8 by omega)
    rcases r2 _ n1 n2 with ⟨c, c1, c2, c3⟩ | c
    · exact Or.inl ⟨c, by omega, c2, c3⟩
    · exact Or.inr c)
  rw [hy] at e3
  have e4 : A2 0 2 = nI sg := by rw [l2.1]; exact F.2.2.2.2.2.1
  have e5 : pt_M_by_60 m (nI p) (nI w) (nI a) (8 : Int32) none none (mH h m A1 I1 u v) = pt_M_by_60 m (nI p) (nI w) (nI a) (nI a) none none (mH h m A2 I2 u v) := e2
  rw [e1, cV_some, e5, q_M_by_60, if_pos (nI_le (Nat.le_refl _) (by omega)), mr_0, ml_0_2, e4, mc, q_M_fewestAt, e3, cI_some]
  unfold fewV
  rw [hx]
  rcases hFI with ⟨x1, y1, -⟩ | ⟨s, g1, g2, g3, g4, g5, g6, g7⟩
  · subst x1
    subst y1
    rw [if_pos (by decide), if_neg (by decide), if_neg (by decide)]
    exact ⟨A2, I3, rfl, k1.trans (k2.trans k3)⟩
  · subst g5
    have hne : ¬ nI (32 * y + s) = -1 := nI_ne_m1 (by omega)
    have c1 : ¬ (1000000 : Int32) ≤ nI y := nI_ge (b := 1000000) (by omega) (by decide)
    have c2 : nI y < (1000000 : Int32) := nI_lt (b := 1000000) (by omega) (by decide)
    have c3 : nI y < (1000 : Int32) := nI_lt (b := 1000) (by omega) (by decide)
    rw [if_neg c1, if_pos c2, sh5_r y (by omega) s (by omega), if_pos c3]
    unfold byV
    rw [if_neg hne]
    by_cases h0 : w = 0
    · subst h0
      rw [if_pos (show nI 0 = 0 from nI_0), if_pos rfl, sh5_r y (by omega) s (by omega)]
      exact ⟨A2, I3, rfl, k1.trans (k2.trans k3)⟩
    · rw [if_neg (nI_ne0 (by omega) (by omega)), if_neg h0, sh5_m y (by omega) s (by omega)]
      obtain ⟨I4, e6, k4⟩ := m_find_loop (h := h) (m := m) (u := u) (v := v) F hw (show a < 8 by omega) (nI p) (nI w) (fun i hi => (hcc i hi).1) (y := y) (z := s) (by omega) g1 g2 g3 (fun j hj hv => ⟨g6 j hj hv, by
        have hj2 := (hcc j (by omega)).2
        have hp5 := pc_5 j (by omega)
        omega⟩) s 0 s3 I3 (by omega) l3
      rw [nI_0] at e6
      exact ⟨A2, I4, e6, k1.trans (k2.trans (k3.trans k4))⟩
end
