/-! the reference: the rope laid, who says, where they go -/
section
variable {h : ab_H} {m : Nat} {A : Nat → Nat → Int32} {I : Nat → Int32} {u v : Int64}
theorem m_op0 {p : Nat} (hp : p < 8) : fn_M_ofPitch m (nI p) (0 : Int32) (mH h m A I u v) = some (some (.int (A 0 (6 + 4 * p + 0))), mH h m A I u v) := m_op hp (by decide) rfl
theorem m_get0 {c : Nat} (hc : c < 5) : fn_M_get m (nI c) (0 : Int32) (mH h m A I u v) = some (some (.int (A 0 (38 + 4 * c + 0))), mH h m A I u v) := m_get hc (by decide) rfl
theorem m_op1 {p : Nat} (hp : p < 8) : fn_M_ofPitch m (nI p) (1 : Int32) (mH h m A I u v) = some (some (.int (A 0 (6 + 4 * p + 1))), mH h m A I u v) := m_op hp (by decide) rfl
theorem m_get1 {c : Nat} (hc : c < 5) : fn_M_get m (nI c) (1 : Int32) (mH h m A I u v) = some (some (.int (A 0 (38 + 4 * c + 1))), mH h m A I u v) := m_get hc (by decide) rfl
theorem m_op2 {p : Nat} (hp : p < 8) : fn_M_ofPitch m (nI p) (2 : Int32) (mH h m A I u v) = some (some (.int (A 0 (6 + 4 * p + 2))), mH h m A I u v) := m_op hp (by decide) rfl
theorem m_get2 {c : Nat} (hc : c < 5) : fn_M_get m (nI c) (2 : Int32) (mH h m A I u v) = some (some (.int (A 0 (38 + 4 * c + 2))), mH h m A I u v) := m_get hc (by decide) rfl
theorem m_op3 {p : Nat} (hp : p < 8) : fn_M_ofPitch m (nI p) (3 : Int32) (mH h m A I u v) = some (some (.int (A 0 (6 + 4 * p + 3))), mH h m A I u v) := m_op hp (by decide) rfl
theorem m_get3 {c : Nat} (hc : c < 5) : fn_M_get m (nI c) (3 : Int32) (mH h m A I u v) = some (some (.int (A 0 (38 + 4 * c + 3))), mH h m A I u v) := m_get hc (by decide) rfl
end
def WF (f : Nat → Int32) : Nat → Nat → Int32 := fun j p => f (6 + 4 * p + j)
/-- the rope that the reference has laid, by place -/
def mQ (f : Nat → Int32) (t : Nat → Nat) (K S : Nat → Int32) (sg rs : Nat) : Nat → Nat → Int32 := fun j i =>
  if j = 0 then nI (t i) else if j = 1 then K (t i) else if j = 2 then f (38 + 4 * t i + 1) else if j = 3 then S (t i) else if j = 4 then f (38 + 4 * t i + 3) else if j = 5 then bt1 sg (t i) else bt1 rs (t i)
def Lay (f : Nat → Int32) (n k : Nat) (t : Nat → Nat) (K S : Nat → Int32) (sg rs : Nat) (A : Nat → Nat → Int32) (I : Nat → Int32) : Prop :=
  A 0 = f ∧ I 7 = nI k ∧ I 10 = nI sg ∧ I 11 = nI rs ∧ (∀ i, i < k → t i < n ∧ A 4 i = nI (t i)) ∧ (∀ c, c < n → A 5 c = K c ∧ A 6 c = S c)
/-- what a question leaves as it was -/
def KQ (A : Nat → Nat → Int32) (I : Nat → Int32) (B : Nat → Nat → Int32) (J : Nat → Int32) : Prop := B 0 = A 0 ∧ B 1 = A 1 ∧ B 2 = A 2 ∧ B 3 = A 3 ∧ B 10 = A 10 ∧ J 16 = I 16
theorem KQ.refl (A : Nat → Nat → Int32) (I : Nat → Int32) : KQ A I A I := ⟨rfl, rfl, rfl, rfl, rfl, rfl⟩
theorem KQ.trans {A B C : Nat → Nat → Int32} {I J L : Nat → Int32} (a : KQ A I B J) (b : KQ B J C L) : KQ A I C L :=
  ⟨b.1.trans a.1, b.2.1.trans a.2.1, b.2.2.1.trans a.2.2.1, b.2.2.2.1.trans a.2.2.2.1, b.2.2.2.2.1.trans a.2.2.2.2.1, b.2.2.2.2.2.trans a.2.2.2.2.2⟩
theorem KQ.int (A : Nat → Nat → Int32) (I : Nat → Int32) {k : Nat} (x : Int32) (hk : 16 ≠ k) : KQ A I A (upd I k x) := ⟨rfl, rfl, rfl, rfl, rfl, if_neg hk⟩
theorem KQ.row (A : Nat → Nat → Int32) (I : Nat → Int32) {j : Nat} (g : Nat → Int32) (hj : (4 ≤ j ∧ j ≤ 9) ∨ 11 ≤ j) : KQ A I (ropU A j g) I :=
  ⟨ropU_ne _ _ (by omega), ropU_ne _ _ (by omega), ropU_ne _ _ (by omega), ropU_ne _ _ (by omega), ropU_ne _ _ (by omega), rfl⟩
section
variable {f : Nat → Int32} {n k : Nat} {t : Nat → Nat} {K S : Nat → Int32} {sg rs : Nat} {A : Nat → Nat → Int32} {I : Nat → Int32}
theorem Lay.sag (l : Lay f n k t K S sg rs A I) (s : Nat) : Lay f n k t K S s rs A (upd I 10 (nI s)) := ⟨l.1, l.2.1, rfl, l.2.2.2.1, l.2.2.2.2.1, l.2.2.2.2.2⟩
theorem Lay.rest (l : Lay f n k t K S sg rs A I) (s : Nat) : Lay f n k t K S sg s A (upd I 11 (nI s)) := ⟨l.1, l.2.1, l.2.2.1, rfl, l.2.2.2.2.1, l.2.2.2.2.2⟩
theorem Lay.int (l : Lay f n k t K S sg rs A I) {i : Nat} (x : Int32) (hi : 12 ≤ i) : Lay f n k t K S sg rs A (upd I i x) :=
  ⟨l.1, (if_neg (by omega)).trans l.2.1, (if_neg (by omega)).trans l.2.2.1, (if_neg (by omega)).trans l.2.2.2.1, l.2.2.2.2.1, l.2.2.2.2.2⟩
theorem Lay.row (l : Lay f n k t K S sg rs A I) {j : Nat} (g : Nat → Int32) (hj : 7 ≤ j) : Lay f n k t K S sg rs (ropU A j g) I := by
  obtain ⟨l0, l1, l2, l3, l4, l5⟩ := l
  refine ⟨by rw [ropU_ne _ _ (by omega)]; exact l0, l1, l2, l3, ?_, ?_⟩
  · rw [ropU_ne _ _ (by omega)]; exact l4
  · rw [ropU_ne _ _ (by omega), ropU_ne _ _ (by omega)]; exact l5
theorem Lay.stone (l : Lay f n k t K S sg rs A I) (c : Nat) (x : Int32) : Lay f n k t K (upd S c x) sg rs (ropU A 6 (upd (A 6) c x)) I := by
  obtain ⟨l0, l1, l2, l3, l4, l5⟩ := l
  refine ⟨l0, l1, l2, l3, l4, fun d hd => ⟨(l5 d hd).1, ?_⟩⟩
  rw [ropU_at]
  unfold upd
  split
  · rfl
  · exact (l5 d hd).2
theorem Lay.kind (l : Lay f n k t K S sg rs A I) (c : Nat) (x : Int32) : Lay f n k t (upd K c x) S sg rs (ropU A 5 (upd (A 5) c x)) I := by
  obtain ⟨l0, l1, l2, l3, l4, l5⟩ := l
  refine ⟨l0, l1, l2, l3, l4, fun d hd => ⟨?_, (l5 d hd).2⟩⟩
  rw [ropU_at]
  unfold upd
  split
  · rfl
  · exact (l5 d hd).1
end
def msL (ice : Int32) (H w : Nat → Int32) : Nat → Nat → Int32 → Int32 → Int32
  | 0, _, best, _ => best
  | k + 1, i, best, most => if ice = 1 then (if best = -1 then (if H i ≤ 0 then msL ice H w k (i + 1) best most else msL ice H w k (i + 1) (w i) (H i)) else msL ice H w k (i + 1) best most) else (if H i ≤ most then msL ice H w k (i + 1) best most else msL ice H w k (i + 1) (w i) (H i))
def wvP (w : Nat → Int32) (b : Int32) : Int32 := if b = -1 then -1 else w b.toNatClampNeg
theorem msL_stay (ice : Int32) (H w : Nat → Int32) (hi : ice = 1) : ∀ (k i : Nat) (best most : Int32), ¬ best = -1 → msL ice H w k i best most = best
  | 0, _, _, _, _ => rfl
  | k + 1, i, best, most, hb => by
    unfold msL
    rw [if_pos hi, if_neg hb]
    exact msL_stay ice H w hi k (i + 1) best most hb
theorem msL_pl (ice : Int32) (H w : Nat → Int32) (n : Nat) (hn : n ≤ 5) (hw : ∀ i, i < n → ¬ w i = -1) : ∀ (k i : Nat) (b most : Int32), i + k = n → (ice = 1 → b = -1 ∧ most = 0) → msL ice H w k i (wvP w b) most = wvP w (plL ice H k i b most)
  | 0, _, _, _, _, _ => rfl
  | k + 1, i, b, most, hi, hb => by
    have hwi : wvP w (nI i) = w i := by
      unfold wvP
      rw [if_neg (nI_ne_m1 (by omega)), nI_clamp (by omega)]
    unfold msL plL
    by_cases h1 : ice = 1
    · obtain ⟨rfl, rfl⟩ := hb h1
      rw [if_pos h1, if_pos (show wvP w (-1) = -1 from if_pos rfl)]
      by_cases h2 : H i ≤ 0
      · rw [if_pos h2, if_neg (show ¬ (¬ H i ≤ 0 ∧ ice = 1) from fun z => z.1 h2), if_pos h2]
        exact msL_pl ice H w n hn hw k (i + 1) (-1) 0 (by omega) (fun _ => ⟨rfl, rfl⟩)
      · rw [if_neg h2, if_pos ⟨h2, h1⟩, hwi]
        exact msL_stay ice H w h1 k (i + 1) _ _ (hw i (by omega))
    · rw [if_neg h1, if_neg (show ¬ (¬ H i ≤ 0 ∧ ice = 1) from fun z => h1 z.2)]
      by_cases h2 : H i ≤ most
      · rw [if_pos h2, if_pos h2]
        exact msL_pl ice H w n hn hw k (i + 1) b most (by omega) (fun z => absurd z h1)
      · rw [if_neg h2, if_neg h2, ← hwi]
        exact msL_pl ice H w n hn hw k (i + 1) (nI i) (H i) (by omega) (fun z => absurd z h1)
section
variable {h : ab_H} {m : Nat} {A : Nat → Nat → Int32} {I : Nat → Int32} {u v : Int64} {f : Nat → Int32} {n k : Nat} {t : Nat → Nat} {K S : Nat → Int32} {sg rs : Nat}
theorem m_sayer_loop (l : Lay f n k t K S sg rs A I) (hn : n ≤ 5) (hk : k ≤ 5) (hsg : sg < 256) (hrs : rs < 256) {p : Nat} (hp : p < 8) : ∀ (d i : Nat) (best most : Int32) (x5 x6 x7 : Option Value), i + d = k → pt_M_sayer_7 m (nI p) best most (nI i) x5 x6 x7 (mH h m A I u v) = some (some (.int (msL (WF f 0 p) (hgR (mQ f t K S sg rs) (WF f) p) (fun i => nI (t i)) d i best most)), mH h m A I u v) := by
  obtain ⟨l0, l1, l2, l3, l4, l5⟩ := l
  intro d
  induction d with
  | zero =>
    intro i best most x5 x6 x7 hi
    rw [q_M_sayer_7, mi_7, l1, if_pos (nI_le (by omega) (by omega))]
    rfl
  | succ d ih =>
    intro i best most x5 x6 x7 hi
    obtain ⟨ht, e4⟩ := l4 i (by omega)
    obtain ⟨e5, e6⟩ := l5 (t i) ht
    have z10 : ((1 : Int32) = 0) = False := eq_false (by decide)
    have hH : hangV (K (t i)) (A 0 (38 + 4 * t i + 1)) (A 6 (t i)) (bt1 sg (t i)) (bt1 rs (t i)) (nI i) (A 0 (6 + 4 * p + 1)) = hgR (mQ f t K S sg rs) (WF f) p i := by
      rw [e6, l0]
      rfl
    have hI : A 0 (6 + 4 * p + 0) = WF f 0 p := by rw [l0]; rfl
    rw [q_M_sayer_7, mi_7, l1, if_neg (nI_ge (by omega) (by omega)), mr_6, ml_4 (by omega), e4, mr_8, ml_5 (by omega), e5, mc, m_hanging (nI i) (K (t i)) (by omega) hp hsg hrs l2 l3, cI_some, mc, m_op0 hp, cI_some, hH, hI]
    simp only [q_M_sayer_95, if_true, z10, if_false, nI_1]
    rw [ih (i + 1) best most _ _ _ (by omega), ih (i + 1) (nI (t i)) _ _ _ _ (by omega)]
    rw [msL]
    split
    · split
      · split <;> rfl
      · rfl
    · split <;> rfl
theorem m_sayer (l : Lay f n k t K S sg rs A I) (hn : n ≤ 5) (hk : k ≤ 5) (hsg : sg < 256) (hrs : rs < 256) {p : Nat} (hp : p < 8) : fn_M_sayer m (nI p) (mH h m A I u v) = some (some (.int (sayR k (mQ f t K S sg rs) (WF f) p)), mH h m A I u v) := by
  have e := m_sayer_loop (h := h) (m := m) (u := u) (v := v) l hn hk hsg hrs hp k 0 (-1) 0 none none none (by omega)
  rw [nI_0] at e
  rw [q_M_sayer, e]
  have := msL_pl (WF f 0 p) (hgR (mQ f t K S sg rs) (WF f) p) (fun i => nI (t i)) k hk (fun i hi => nI_ne_m1 (by have := (l.2.2.2.2.1 i hi).1; omega)) k 0 (-1) 0 (by omega) (fun _ => ⟨rfl, rfl⟩)
  rw [show wvP (fun i => nI (t i)) (-1) = -1 from if_pos rfl] at this
  rw [this]
  rfl
theorem m_nextOf (l : Lay f n k t K S sg rs A I) (hn : n ≤ 5) (hk : k ≤ 5) (hsg : sg < 256) (hrs : rs < 256) {p : Nat} (hp : p < 8) : fn_M_nextOf m (nI p) (mH h m A I u v) = some (some (.int (nxtR k (mQ f t K S sg rs) (WF f) p)), mH h m A I u v) := by
  have hs := m_sayer (h := h) (m := m) (u := u) (v := v) l hn hk hsg hrs hp
  obtain ⟨l0, l1, l2, l3, l4, l5⟩ := l
  have h2 : A 0 (6 + 4 * p + 2) = WF f 2 p := by rw [l0]; rfl
  have h3 : A 0 (6 + 4 * p + 3) = WF f 3 p := by rw [l0]; rfl
  rw [q_M_nextOf, mc, hs, cI_some]
  rcases plV_in k (WF f 0 p) (hgR (mQ f t K S sg rs) (WF f) p) with e | ⟨j, hj, e⟩
  · have e1 : sayR k (mQ f t K S sg rs) (WF f) p = -1 := if_pos e
    have e2 : nxtR k (mQ f t K S sg rs) (WF f) p = WF f 2 p := if_pos e
    rw [e1, e2, if_pos rfl, mc, m_op2 hp, cI_some, h2]
  · have hne := nI_ne_m1 (j := j) (by omega)
    have htj := (l4 j hj).1
    have e1 : sayR k (mQ f t K S sg rs) (WF f) p = nI (t j) := by
      unfold sayR saV
      rw [e, if_neg hne, nI_clamp (by omega)]
      rfl
    have e2 : nxtR k (mQ f t K S sg rs) (WF f) p = if f (38 + 4 * t j + 3) >>> (nI p &&& 31) &&& 1 = 1 then WF f 3 p else WF f 2 p := by
      unfold nxtR nxV
      rw [e, if_neg hne, nI_clamp (by omega)]
      rfl
    have z10 : ¬ ((1 : Int32) = 0) := by decide
    rw [e1, e2, if_neg (nI_ne_m1 (by omega)), mc, m_get3 (by omega), cI_some, l0, q_M_has]
    split
    · rw [chk_b1, cI_some, if_neg z10, mc, m_op3 hp, cI_some, h3]
    · rw [chk_b0, cI_some, if_pos rfl, mc, m_op2 hp, cI_some, h2]
theorem m_lay_loop {h : ab_H} {m : Nat} {u v : Int64} {f : Nat → Int32} {n : Nat} (hn : n ≤ 5) (e0 : f 0 = nI n) : ∀ (d c : Nat) (A : Nat → Nat → Int32) (I : Nat → Int32), c + d = n → A 0 = f → I 7 = nI n → (∀ i, i < c → A 4 i = nI i ∧ A 5 i = f (38 + 4 * i + 0) ∧ A 6 i = f (38 + 4 * i + 2)) → ∃ A' I', pt_M_layRope_10 m (nI c) (mH h m A I u v) = some (none, mH h m A' I' u v) ∧ A' 0 = f ∧ I' 7 = nI n ∧ I' 10 = f 2 ∧ I' 11 = f 3 ∧ (∀ i, i < n → A' 4 i = nI i ∧ A' 5 i = f (38 + 4 * i + 0) ∧ A' 6 i = f (38 + 4 * i + 2)) ∧ KQ A I A' I' := by
  intro d
  induction d with
  | zero =>
    intro c A I hc hA hI hr
    have hcn : c = n := by omega
    subst hcn
    refine ⟨A, upd (upd I 10 (f 2)) 11 (f 3), ?_, hA, hI, rfl, rfl, hr, KQ.trans (KQ.int A I _ (by decide)) (KQ.int A _ _ (by decide))⟩
    rw [q_M_layRope_10, mc, m_many, cI_some, hA, e0, if_pos (nI_le (by omega) (by omega)), mr_0, ml_0_2, mp_10, mr_0, ml_0_3, mp_11, hA]
  | succ d ih =>
    intro c A I hc hA hI hr
    have k1 : KQ A I (ropU A 4 (upd (A 4) c (nI c))) I := KQ.row A I _ (by omega)
    obtain ⟨A', I', e1, r1, r2, r3, r4, r5, r6⟩ := ih (c + 1) (ropU (ropU (ropU A 4 (upd (A 4) c (nI c))) 5 (upd (A 5) c (f (38 + 4 * c + 0)))) 6 (upd (A 6) c (f (38 + 4 * c + 2)))) I (by omega) hA hI (by
      intro i hi
      show upd (A 4) c (nI c) i = _ ∧ upd (A 5) c (f (38 + 4 * c + 0)) i = _ ∧ upd (A 6) c (f (38 + 4 * c + 2)) i = _
      unfold upd
      by_cases hic : i = c
      · subst hic
        rw [if_pos rfl, if_pos rfl, if_pos rfl]
        exact ⟨rfl, rfl, rfl⟩
      · rw [if_neg hic, if_neg hic, if_neg hic]
        exact hr i (by omega))
    refine ⟨A', I', ?_, r1, r2, r3, r4, r5, k1.trans ((KQ.row _ I _ (by omega)).trans ((KQ.row _ I _ (by omega)).trans r6))⟩
    rw [q_M_layRope_10, mc, m_many, cI_some, hA, e0, if_neg (nI_ge (by omega) (by omega)), mr_6, ma_4 (by omega), mr_8, mc, m_get0 (by omega), cI_some, ma_5 (by omega), mr_9, mc, m_get2 (by omega), cI_some, ma_6 (by omega), nI_1, ← e1]
    rw [show (ropU (ropU A 4 (upd (A 4) c (nI c))) 5 (upd (ropU A 4 (upd (A 4) c (nI c)) 5) c (ropU A 4 (upd (A 4) c (nI c)) 0 (38 + 4 * c + 0)))) 0 = f from hA]
    rw [show (ropU A 4 (upd (A 4) c (nI c))) 0 = f from hA]
    rfl
def idN : Nat → Nat := fun i => i
/-- the rope as it is -/
def fK (f : Nat → Int32) : Nat → Int32 := fun c => f (38 + 4 * c + 0)
def fS (f : Nat → Int32) : Nat → Int32 := fun c => f (38 + 4 * c + 2)
theorem m_layRope {h : ab_H} {m : Nat} {u v : Int64} {f : Nat → Int32} {n sg rs : Nat} {A : Nat → Nat → Int32} {I : Nat → Int32} (hn : n ≤ 5) (hA : A 0 = f) (e0 : f 0 = nI n) (e2 : f 2 = nI sg) (e3 : f 3 = nI rs) : ∃ A' I', fn_M_layRope m (mH h m A I u v) = some (none, mH h m A' I' u v) ∧ Lay f n n idN (fK f) (fS f) sg rs A' I' ∧ KQ A I A' I' := by
  obtain ⟨A', I', e1, r1, r2, r3, r4, r5, r6⟩ := m_lay_loop (h := h) (m := m) (u := u) (v := v) hn e0 n 0 A (upd I 7 (nI n)) (by omega) hA rfl (fun i hi => absurd hi (Nat.not_lt_zero i))
  rw [nI_0] at e1
  refine ⟨A', I', ?_, ⟨r1, r2, r3.trans e2, r4.trans e3, fun i hi => ⟨hi, (r5 i hi).1⟩, fun c hc => ⟨(r5 c hc).2.1, (r5 c hc).2.2⟩⟩, (KQ.int A I _ (by decide)).trans r6⟩
  rw [q_M_layRope, mc, m_many, cI_some, hA, e0, mp_7, e1]
end
