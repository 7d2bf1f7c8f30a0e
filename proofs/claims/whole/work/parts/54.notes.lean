/-! the reference: the notes, stones, kinds -/
def NF (f : Nat → Int32) : Nat → Nat → Int32 := fun j i => f (58 + 2 * i + j)
def No (f : Nat → Int32) (nn : Nat) : Prop := nn ≤ 6 ∧ f 4 = nI nn ∧ ∀ i, i < nn → ∃ p, p < 8 ∧ f (58 + 2 * i) = nI p
section
variable {h : ab_H} {m : Nat} {u v : Int64} {f : Nat → Int32} {n nn rs sg : Nat} {A : Nat → Nat → Int32} {I : Nat → Int32} {K S : Nat → Int32}
theorem m_so0 (h6 : nn ≤ 6) (e4 : A 0 4 = nI nn) : ∀ (d i : Nat), i + d = nn → pt_M_areNotesSo_4 m 0 (nI i) (mH h m A I u v) = some (some (.int 0), mH h m A I u v) := by
  intro d
  induction d with
  | zero =>
    intro i hi
    rw [q_M_areNotesSo_4, mr_0, ml_0_4, e4, if_pos (nI_le (by omega) (by omega)), chk_b0]
  | succ d ih =>
    intro i hi
    rw [q_M_areNotesSo_4, mr_0, ml_0_4, e4, if_neg (nI_ge (by omega) (by omega)), if_pos rfl, nI_1]
    exact ih (i + 1) (by omega)
theorem m_so1 (N : No f nn) (hn : n ≤ 5) (l : Lay f n n idN K S sg rs A I) (hsg : sg < 256) (hrs : rs < 256) : ∀ (d i : Nat), i + d = nn → pt_M_areNotesSo_4 m 1 (nI i) (mH h m A I u v) = some (some (.int (soL n (mQ f idN K S sg rs) (WF f) (NF f) d i)), mH h m A I u v) := by
  obtain ⟨n6, n4, np⟩ := N
  have e4 : A 0 4 = nI nn := by rw [l.1]; exact n4
  intro d
  induction d with
  | zero =>
    intro i hi
    rw [q_M_areNotesSo_4, mr_0, ml_0_4, e4, if_pos (nI_le (by omega) (by omega)), chk_b1]
    rfl
  | succ d ih =>
    intro i hi
    obtain ⟨p, hp, ep⟩ := np i (by omega)
    have ep' : A 0 (58 + 2 * i) = nI p := by rw [l.1]; exact ep
    have hs := m_sayer (h := h) (m := m) (u := u) (v := v) l hn hn hsg hrs hp
    rw [q_M_areNotesSo_4, mr_0, ml_0_4, e4, if_neg (nI_ge (by omega) (by omega)), if_neg (by decide), mr_0, ix_58, ml_0 (by omega), ep', mc, hs, cI_some, mr_0, nI_1, ml_0 (by omega), nI_1, ih (i + 1) (by omega), m_so0 n6 e4 d (i + 1) (by omega)]
    have e1 : (NF f 0 i).toNatClampNeg = p := by
      show (f (58 + 2 * i)).toNatClampNeg = p
      rw [ep, nI_clamp (by omega)]
    have e2 : A 0 (58 + 2 * i + 1) = NF f 1 i := by rw [l.1]; rfl
    rw [soL, e1, e2]
    split <;> rfl
theorem m_so (N : No f nn) (hn : n ≤ 5) (l : Lay f n n idN K S sg rs A I) (hsg : sg < 256) (hrs : rs < 256) : fn_M_areNotesSo m (mH h m A I u v) = some (some (.int (soL n (mQ f idN K S sg rs) (WF f) (NF f) nn 0)), mH h m A I u v) := by
  have := m_so1 (h := h) (m := m) (u := u) (v := v) N hn l hsg hrs nn 0 (by omega)
  rw [nI_0] at this
  rw [q_M_areNotesSo, this]
theorem m_stones_loop (N : No f nn) (hn : n ≤ 5) {c : Nat} (hc : c < n) (hrs : rs < 256) : ∀ (d i : Nat) (acc : Int32) (A : Nat → Nat → Int32) (T : Nat → Int32), i + d = 10 → (∀ x, upd T c x = upd S c x) → Lay f n n idN K T 0 rs A I → ∃ A' T', pt_M_stonesOf_13 m (nI c) acc (nI i) (mH h m A I u v) = some (some (.int (fitL n (mQ f idN K S 0 rs) (WF f) (NF f) nn 3 c d i acc)), mH h m A' I u v) ∧ (∀ x, upd T' c x = upd S c x) ∧ Lay f n n idN K T' 0 rs A' I ∧ KQ A I A' I := by
  intro d
  induction d with
  | zero =>
    intro i acc A T hi hT l
    rw [q_M_stonesOf_13, if_pos (show (10 : Int32) ≤ nI i from nI_le (a := 10) (by omega) (by omega))]
    exact ⟨A, T, rfl, hT, l, KQ.refl _ _⟩
  | succ d ih =>
    intro i acc A T hi hT l
    have l' := l.stone c (nI i)
    rw [hT] at l'
    have hT' : ∀ x, upd (upd S c (nI i)) c x = upd S c x := fun x => upd_upd _ _ _ _
    have k1 : KQ A I (ropU A 6 (upd (A 6) c (nI i))) I := KQ.row A I _ (by omega)
    rw [q_M_stonesOf_13, if_neg (show ¬ (10 : Int32) ≤ nI i from nI_ge (b := 10) (by omega) (by decide)), mr_9, ma_6 (by omega), mc, m_so N hn l' (by omega) hrs, cI_some, or_0, nI_1]
    rw [fitL, mQ_stone]
    split
    · obtain ⟨A', T', e1, r1, r2, k2⟩ := ih (i + 1) acc _ _ (by omega) hT' l'
      exact ⟨A', T', e1, r1, r2, k1.trans k2⟩
    · obtain ⟨A', T', e1, r1, r2, k2⟩ := ih (i + 1) (acc ||| 1 <<< (nI i &&& 31)) _ _ (by omega) hT' l'
      exact ⟨A', T', e1, r1, r2, k1.trans k2⟩
theorem m_kinds_loop (N : No f nn) (hn : n ≤ 5) {c : Nat} (hc : c < n) (hrs : rs < 256) : ∀ (d i : Nat) (acc : Int32) (A : Nat → Nat → Int32) (T : Nat → Int32), i + d = 6 → (∀ x, upd T c x = upd K c x) → Lay f n n idN T S 0 rs A I → ∃ A', pt_M_is_28 m (nI c) acc (nI i) (mH h m A I u v) = some (some (.int (fitL n (mQ f idN K S 0 rs) (WF f) (NF f) nn 1 c d i acc)), mH h m A' I u v) ∧ KQ A I A' I := by
  intro d
  induction d with
  | zero =>
    intro i acc A T hi hT l
    rw [q_M_is_28, if_pos (show (6 : Int32) ≤ nI i from nI_le (a := 6) (by omega) (by omega))]
    exact ⟨A, rfl, KQ.refl _ _⟩
  | succ d ih =>
    intro i acc A T hi hT l
    have l' := l.kind c (nI i)
    rw [hT] at l'
    have hT' : ∀ x, upd (upd K c (nI i)) c x = upd K c x := fun x => upd_upd _ _ _ _
    have k1 : KQ A I (ropU A 5 (upd (A 5) c (nI i))) I := KQ.row A I _ (by omega)
    rw [q_M_is_28, if_neg (show ¬ (6 : Int32) ≤ nI i from nI_ge (b := 6) (by omega) (by decide)), mr_8, ma_5 (by omega), mc, m_so N hn l' (by omega) hrs, cI_some, or_0, nI_1]
    rw [fitL, mQ_kind]
    split
    · obtain ⟨A', e1, k2⟩ := ih (i + 1) acc _ _ (by omega) hT' l'
      exact ⟨A', e1, k1.trans k2⟩
    · obtain ⟨A', e1, k2⟩ := ih (i + 1) (acc ||| 1 <<< (nI i &&& 31)) _ _ (by omega) hT' l'
      exact ⟨A', e1, k1.trans k2⟩
end
section
variable {h : ab_H} {m : Nat} {u v : Int64} {f : Nat → Int32} {n a nn rs sg : Nat} {A : Nat → Nat → Int32} {I : Nat → Int32}
theorem m_stonesOf (F : Fo f n a sg rs) (N : No f nn) (hA : A 0 = f) {c : Nat} (hc : c < n) : ∃ A' I' T, fn_M_stonesOf m (nI c) (mH h m A I u v) = some (some (.int (fitL n (ropU (RF f sg rs) 5 (bt1 0)) (WF f) (NF f) nn 3 c 10 0 0)), mH h m A' I' u v) ∧ (∀ x, upd T c x = upd (fS f) c x) ∧ Lay f n n idN (fK f) T 0 rs A' I' ∧ KQ A I A' I' := by
  obtain ⟨A1, I1, e1, l1, k1⟩ := F.lay (h := h) (m := m) (u := u) (v := v) (I := I) hA
  obtain ⟨A2, T, e2, r2, l2, k2⟩ := m_stones_loop (h := h) (m := m) (u := u) (v := v) N F.1 hc (by have := F.rs32; omega) 10 0 0 A1 (fS f) (by omega) (fun _ => rfl) (l1.sag 0)
  rw [nI_0] at e2
  refine ⟨A2, _, T, ?_, r2, l2, k1.trans ((KQ.int A1 I1 _ (by decide)).trans k2)⟩
  rw [q_M_stonesOf, mc, e1, cV_some, mp_10, e2]
  unfold RF
  rw [mQ_sag]
  rfl
theorem m_kindsOf (F : Fo f n a sg rs) (N : No f nn) (hA : A 0 = f) {c : Nat} (hc : c < n) : ∃ A' I', (ab_cV (fn_M_layRope m (mH h m A I u v)) fun h3 => (ab_pf h3 m 11 10 (.int (0 : Int32)) fun h4 => pt_M_is_28 m (nI c) (0 : Int32) (0 : Int32) h4)) = some (some (.int (fitL n (ropU (RF f sg rs) 5 (bt1 0)) (WF f) (NF f) nn 1 c 6 0 0)), mH h m A' I' u v) ∧ KQ A I A' I' := by
  obtain ⟨A1, I1, e1, l1, k1⟩ := F.lay (h := h) (m := m) (u := u) (v := v) (I := I) hA
  obtain ⟨A2, e2, k2⟩ := m_kinds_loop (h := h) (m := m) (u := u) (v := v) N F.1 hc (by have := F.rs32; omega) 6 0 0 A1 (fK f) (by omega) (fun _ => rfl) (l1.sag 0)
  rw [nI_0] at e2
  refine ⟨A2, _, ?_, k1.trans ((KQ.int A1 I1 _ (by decide)).trans k2)⟩
  rw [e1, cV_some, mp_10, e2]
  unfold RF
  rw [mQ_sag]
  rfl
end
/-! the reference: how many bits -/
def bcN : Nat → Nat → Nat → Nat
  | 0, _, acc => acc
  | k + 1, s, acc => if s = 0 then acc else bcN k (s / 2) (acc + s % 2)
theorem nI_and1 : ∀ s, s < 1024 → nI s &&& 1 = nI (s % 2) := by decide +kernel
theorem nI_shr1 : ∀ s, s < 1024 → nI s >>> ((1 : Int32) &&& 31) = nI (s / 2) := by decide +kernel
theorem m_bits_loop (x0 : Int32) (h : ab_H) : ∀ (k s acc : Nat), s < 2 ^ k → s < 1024 → pt_M_bits_4 x0 (nI acc) (nI s) h = some (some (.int (nI (bcN k s acc))), h) := by
  intro k
  induction k with
  | zero =>
    intro s acc hs _
    have e : s = 0 := by omega
    subst e
    rw [q_M_bits_4, if_pos (by decide)]
    rfl
  | succ k ih =>
    intro s acc hs h1
    rw [q_M_bits_4, bcN]
    by_cases h0 : s = 0
    · subst h0
      rw [if_pos (by decide), if_pos rfl]
    · rw [if_neg (nI_nle (by omega) (by omega)), if_neg h0, nI_and1 s h1, nI_shr1 s h1, nI_add]
      exact ih (s / 2) (acc + s % 2) (by rw [Nat.pow_succ] at hs; omega) (by omega)
theorem m_bits {s : Nat} (hs : s < 1024) (h : ab_H) : fn_M_bits (nI s) h = some (some (.int (nI (bcN 10 s 0))), h) := by
  have := m_bits_loop (nI s) h 10 s 0 hs hs
  rw [nI_0] at this
  rw [q_M_bits, this]
theorem bcN_pc : ∀ s, s < 32 → bcN 10 s 0 = pcN s := by decide +kernel
