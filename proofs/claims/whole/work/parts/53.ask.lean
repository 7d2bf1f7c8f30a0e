/-! the reference: questions (who can say, what is never mine, a cut) -/
def Fo (f : Nat → Int32) (n a sg rs : Nat) : Prop := n ≤ 5 ∧ f 0 = nI n ∧ a ≤ 8 ∧ f 1 = nI a ∧ sg < 2 ^ n ∧ f 2 = nI sg ∧ rs < 2 ^ n ∧ f 3 = nI rs
def RF (f : Nat → Int32) (sg rs : Nat) : Nat → Nat → Int32 := mQ f idN (fK f) (fS f) sg rs
theorem mQ_sag (f : Nat → Int32) (K S : Nat → Int32) (sg rs s : Nat) : ropU (mQ f idN K S sg rs) 5 (bt1 s) = mQ f idN K S s rs := by
  funext j i
  unfold ropU
  by_cases hj : j = 5
  · subst hj
    rw [if_pos rfl]
    rfl
  · rw [if_neg hj]
    unfold mQ
    rw [if_neg hj, if_neg hj]
theorem mQ_stone (f : Nat → Int32) (K S : Nat → Int32) (sg rs c : Nat) (x : Int32) : ropU (mQ f idN K S sg rs) 3 (upd ((mQ f idN K S sg rs) 3) c x) = mQ f idN K (upd S c x) sg rs := by
  funext j i
  unfold ropU
  by_cases hj : j = 3
  · subst hj
    rw [if_pos rfl]
    rfl
  · rw [if_neg hj]
    unfold mQ
    rw [if_neg hj, if_neg hj]
theorem mQ_kind (f : Nat → Int32) (K S : Nat → Int32) (sg rs c : Nat) (x : Int32) : ropU (mQ f idN K S sg rs) 1 (upd ((mQ f idN K S sg rs) 1) c x) = mQ f idN (upd K c x) S sg rs := by
  funext j i
  unfold ropU
  by_cases hj : j = 1
  · subst hj
    rw [if_pos rfl]
    rfl
  · rw [if_neg hj]
    unfold mQ
    rw [if_neg hj, if_neg hj]
theorem and1 (x : Int32) : x &&& 1 = 0 ∨ x &&& 1 = 1 := by
  have e : (x &&& 1).toBitVec = x.toBitVec &&& 1#32 := rfl
  rw [BitVec.and_one_eq_setWidth_ofBool_getLsbD] at e
  cases hb : x.toBitVec.getLsbD 0
  · refine Or.inl (Int32.toBitVec_inj.mp ?_)
    rw [e, hb]
    rfl
  · refine Or.inr (Int32.toBitVec_inj.mp ?_)
    rw [e, hb]
    rfl
theorem m_has (x y : Int32) (h : ab_H) : fn_M_has x y h = some (some (.int (x >>> (y &&& 31) &&& 1)), h) := by
  rw [q_M_has]
  rcases and1 (x >>> (y &&& 31)) with e | e
  · rw [e, if_neg (by decide), chk_b0]
  · rw [e, if_pos rfl, chk_b1]
theorem up_at (I : Nat → Int32) (k : Nat) (x : Int32) : upd I k x k = x := if_pos rfl
theorem up_ne (I : Nat → Int32) {k j : Nat} (x : Int32) (h : j ≠ k) : upd I k x j = I j := if_neg h
theorem or_0 (x : Int32) : x ||| 0 = x := Int32.or_zero
theorem add_0 (x : Int32) : x + 0 = x := Int32.add_zero x
section
variable {h : ab_H} {m : Nat} {u v : Int64} {f : Nat → Int32} {n : Nat} {K S : Nat → Int32} {rs : Nat} {A : Nat → Nat → Int32}
theorem m_can_loop {p : Nat} (hp : p < 8) (hn : n ≤ 5) (e0 : f 0 = nI n) (hrs : rs < 256) : ∀ (d i : Nat) (acc : Int32) (x4 : Option Value) (sg : Nat) (I : Nat → Int32), i + d = 2 ^ n → Lay f n n idN K S sg rs A I → ∃ I', pt_M_canSayAt_8 m (nI p) acc (nI i) x4 (mH h m A I u v) = some (some (.int (orL (fun s => sayR n (mQ f idN K S s rs) (WF f) p) d i acc)), mH h m A I' u v) ∧ KQ A I A I' := by
  have h32 := pow_le32 hn
  have h1 : 0 < 2 ^ n := Nat.pow_pos (by decide)
  intro d
  induction d with
  | zero =>
    intro i acc x4 sg I hi l
    have e0' : A 0 0 = nI n := by rw [l.1]; exact e0
    rw [q_M_canSayAt_8, mc, m_all hn e0', cI_some, if_pos (nI_lt (by omega) (by omega))]
    exact ⟨I, rfl, KQ.refl _ _⟩
  | succ d ih =>
    intro i acc x4 sg I hi l
    have e0' : A 0 0 = nI n := by rw [l.1]; exact e0
    have l' := l.sag i
    rw [q_M_canSayAt_8, mc, m_all hn e0', cI_some, if_neg (nI_nlt (by omega) (by omega)), mp_10, mc, m_sayer l' hn hn (by omega) hrs hp, cI_some, nI_1, or_0]
    simp only [orL]
    split
    · obtain ⟨I', e1, k1⟩ := ih (i + 1) acc (some (.int (sayR n (mQ f idN K S i rs) (WF f) p))) i _ (by omega) l'
      exact ⟨I', e1, (KQ.int A I _ (by decide)).trans k1⟩
    · obtain ⟨I', e1, k1⟩ := ih (i + 1) (acc ||| 1 <<< (sayR n (mQ f idN K S i rs) (WF f) p &&& 31)) (some (.int (sayR n (mQ f idN K S i rs) (WF f) p))) i _ (by omega) l'
      exact ⟨I', e1, (KQ.int A I _ (by decide)).trans k1⟩
end
section
variable {h : ab_H} {m : Nat} {u v : Int64} {f : Nat → Int32} {n a sg rs : Nat} {A : Nat → Nat → Int32} {I : Nat → Int32}
theorem Fo.lay (F : Fo f n a sg rs) (hA : A 0 = f) : ∃ A' I', fn_M_layRope m (mH h m A I u v) = some (none, mH h m A' I' u v) ∧ Lay f n n idN (fK f) (fS f) sg rs A' I' ∧ KQ A I A' I' := m_layRope F.1 hA F.2.1 F.2.2.2.2.2.1 F.2.2.2.2.2.2.2
theorem Fo.sg32 (F : Fo f n a sg rs) : sg < 32 := Nat.lt_of_lt_of_le F.2.2.2.2.1 (pow_le32 F.1)
theorem Fo.rs32 (F : Fo f n a sg rs) : rs < 32 := Nat.lt_of_lt_of_le F.2.2.2.2.2.2.1 (pow_le32 F.1)
theorem m_canAt (F : Fo f n a sg rs) (hA : A 0 = f) {p : Nat} (hp : p < 8) : ∃ A' I', fn_M_canSayAt m (nI p) (mH h m A I u v) = some (some (.int (canV n (RF f sg rs) (WF f) p)), mH h m A' I' u v) ∧ KQ A I A' I' := by
  obtain ⟨A', I', e1, l, k1⟩ := F.lay (h := h) (m := m) (u := u) (v := v) (I := I) hA
  obtain ⟨I2, e2, k2⟩ := m_can_loop (h := h) (m := m) (u := u) (v := v) hp F.1 F.2.1 (by have := F.rs32; omega) (2 ^ n) 0 0 none sg I' (by omega) l
  rw [nI_0] at e2
  refine ⟨A', I2, ?_, k1.trans k2⟩
  rw [q_M_canSayAt, mc, e1, cV_some, e2]
  unfold canV RF
  simp only [mQ_sag]
theorem m_mine_loop (F : Fo f n a sg rs) (c : Nat) : ∀ (d i : Nat) (acc : Int32) (A : Nat → Nat → Int32) (I : Nat → Int32), i + d = 8 → A 0 = f → ∃ A' I', pt_M_mine_19 m (nI c) acc (nI i) (mH h m A I u v) = some (some (.int (nevL (canV n (RF f sg rs) (WF f)) c d i acc)), mH h m A' I' u v) ∧ KQ A I A' I' := by
  intro d
  induction d with
  | zero =>
    intro i acc A I hi hA
    rw [q_M_mine_19, if_pos (show (8 : Int32) ≤ nI i from nI_le (a := 8) (by omega) (by omega))]
    exact ⟨A, I, rfl, KQ.refl _ _⟩
  | succ d ih =>
    intro i acc A I hi hA
    obtain ⟨A1, I1, e1, k1⟩ := m_canAt (h := h) (m := m) (u := u) (v := v) (I := I) F hA (p := i) (by omega)
    rw [q_M_mine_19, if_neg (show ¬ (8 : Int32) ≤ nI i from nI_ge (b := 8) (by omega) (by decide)), mc, e1, cI_some, m_has, cI_some, nI_1, or_0]
    simp only [nevL]
    split
    · obtain ⟨A2, I2, e2, k2⟩ := ih (i + 1) (acc ||| 1 <<< (nI i &&& 31)) A1 I1 (by omega) (k1.1.trans hA)
      exact ⟨A2, I2, e2, k1.trans k2⟩
    · obtain ⟨A2, I2, e2, k2⟩ := ih (i + 1) acc A1 I1 (by omega) (k1.1.trans hA)
      exact ⟨A2, I2, e2, k1.trans k2⟩
theorem Lay.many {k : Nat} {t : Nat → Nat} {K S : Nat → Int32} (l : Lay f n k t K S sg rs A I) {k' : Nat} (hk : k' ≤ k) : Lay f n k' t K S sg rs A (upd I 7 (nI k')) := ⟨l.1, rfl, l.2.2.1, l.2.2.2.1, fun i hi => l.2.2.2.2.1 i (by omega), l.2.2.2.2.2⟩
theorem m_cut_loop (F : Fo f n a sg rs) (ha : a < 8) (x1 x2 : Int32) {b k : Nat} (hbk : b + k ≤ n) : ∀ (d i : Nat) (A : Nat → Nat → Int32), i + d = k → Lay f n i (fun l => b + l) (fK f) (fS f) sg rs A (upd I 7 (nI i)) → ∃ A', pt_M_cut_90 m x1 x2 (nI b) (nI i) (mH h m A (upd I 7 (nI k)) u v) = some (some (.int (sayR k (fun j i => RF f sg rs j (b + i)) (WF f) a)), mH h m A' (upd I 7 (nI k)) u v) ∧ KQ A I A' I := by
  have hn := F.1
  intro d
  induction d with
  | zero =>
    intro i A hi l
    have e : i = k := by omega
    subst e
    have e1 : A 0 1 = nI a := by rw [l.1]; exact F.2.2.2.1
    have hs := m_sayer (h := h) (m := m) (u := u) (v := v) l hn (by omega) (by have := F.sg32; omega) (by have := F.rs32; omega) ha
    rw [q_M_cut_90, mi_7, up_at, if_pos (nI_le (by omega) (by omega)), mr_0, ml_0_1, mc, e1, hs, cI_some]
    exact ⟨A, rfl, KQ.refl _ _⟩
  | succ d ih =>
    intro i A hi l
    have k1 : KQ A I (ropU A 4 (upd (A 4) i (nI (b + i)))) I := KQ.row A I _ (by omega)
    obtain ⟨A', e1, k2⟩ := ih (i + 1) (ropU A 4 (upd (A 4) i (nI (b + i)))) (by omega) (by
      obtain ⟨l0, l1, l2, l3, l4, l5⟩ := l
      refine ⟨l0, rfl, l2, l3, fun j hj => ⟨show b + j < n by omega, ?_⟩, l5⟩
      show upd (A 4) i (nI (b + i)) j = _
      unfold upd
      split
      · rename_i e; rw [e]
      · exact (l4 j (by omega)).2)
    refine ⟨A', ?_, k1.trans k2⟩
    rw [q_M_cut_90, mi_7, up_at, if_neg (show ¬ nI k ≤ nI i from nI_ge (by omega) (by omega)), mr_6, nI_add, ma_4 (by omega), nI_1, e1]
end
