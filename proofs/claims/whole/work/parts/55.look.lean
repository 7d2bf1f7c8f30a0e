/-! the reference: at which pitch to look next -/
theorem or_pow : ∀ i, i < 10 → ∀ t, t < 2 ^ i → nI t ||| (1 <<< (nI i &&& 31)) = nI (t + 2 ^ i) := by decide +kernel
theorem fit_nI (n : Nat) (Z V N : Nat → Nat → Int32) (nn j c : Nat) : ∀ (d i t : Nat), i + d ≤ 10 → t < 2 ^ i → ∃ t', fitL n Z V N nn j c d i (nI t) = nI t' ∧ t' < 2 ^ (i + d)
  | 0, i, t, _, ht => ⟨t, rfl, ht⟩
  | d + 1, i, t, hi, ht => by
    have hp : 2 ^ (i + 1) = 2 ^ i + 2 ^ i := by rw [Nat.pow_succ]; omega
    rw [fitL, show i + (d + 1) = i + 1 + d by omega]
    split
    · exact fit_nI n Z V N nn j c d (i + 1) t (by omega) (by omega)
    · rw [or_pow i (by omega) t ht]
      exact fit_nI n Z V N nn j c d (i + 1) (t + 2 ^ i) (by omega) (by omega)
def cntF (t : Nat) : Nat → Nat → Nat
  | 0, _ => 0
  | d + 1, i => (if nI t >>> (nI i &&& 31) &&& 1 = 1 then 1 else 0) + cntF t d (i + 1)
theorem cntF_bc : ∀ t, t < 1024 → cntF t 10 0 = bcN 10 t 0 := by decide +kernel
theorem bcE_bc : ∀ t, t < 1024 → bcE (nI t) = nI (bcN 10 t 0) := by decide +kernel
theorem bcN_10 : ∀ t, t < 1024 → bcN 10 t 0 ≤ 10 := by decide +kernel
theorem bcN_0 : ∀ t, t < 1024 → (bcN 10 t 0 = 0 ↔ t = 0) := by decide +kernel
theorem ss_nI (n : Nat) (Z V : Nat → Nat → Int32) (c p t : Nat) : ∀ (d i y : Nat), ∃ y', ssL n Z V c p (nI t) d i (nI y) = nI y' ∧ y' ≤ y + cntF t d i
  | 0, i, y => ⟨y, rfl, Nat.le_refl _⟩
  | d + 1, i, y => by
    rw [ssL, cntF, nI_1]
    split
    · split
      · obtain ⟨y', e, h⟩ := ss_nI n Z V c p t d (i + 1) (y + 1)
        exact ⟨y', e, by omega⟩
      · obtain ⟨y', e, h⟩ := ss_nI n Z V c p t d (i + 1) y
        exact ⟨y', e, by omega⟩
    · obtain ⟨y', e, h⟩ := ss_nI n Z V c p t d (i + 1) y
      exact ⟨y', e, by omega⟩
theorem gt_eq : ∀ b, b < 11 → ∀ y, y < 11 → (if (2 : Int32) * nI y ≤ nI b then nI b - nI y else nI y) = gtV (nI b) (nI y) := by decide +kernel
theorem gt_le : ∀ b, b < 11 → ∀ y, y < b + 1 → ¬ (nI b + 1 ≤ gtV (nI b) (nI y)) ∧ ¬ ((1000000 : Int32) ≤ gtV (nI b) (nI y)) := by decide +kernel
section
variable {h : ab_H} {m : Nat} {u v : Int64} {f : Nat → Int32} {n a nn rs sg : Nat} {I : Nat → Int32} {K S : Nat → Int32}
theorem m_yes_loop (hn : n ≤ 5) {c p : Nat} (hc : c < n) (hp : p < 8) (hrs : rs < 256) (fit best least : Int32) : ∀ (d i : Nat) (acc : Int32) (A : Nat → Nat → Int32) (T : Nat → Int32), i + d = 10 → (∀ x, upd T c x = upd S c x) → Lay f n n idN K T 0 rs A I → ∃ A' T', pt_M_look_47 m (nI c) fit best least (nI p) acc (nI i) (mH h m A I u v) = pt_M_look_47 m (nI c) fit best least (nI p) (ssL n (mQ f idN K S 0 rs) (WF f) c p fit d i acc) (nI 10) (mH h m A' I u v) ∧ (∀ x, upd T' c x = upd S c x) ∧ Lay f n n idN K T' 0 rs A' I ∧ KQ A I A' I := by
  intro d
  induction d with
  | zero =>
    intro i acc A T hi hT l
    have e : i = 10 := by omega
    subst e
    exact ⟨A, T, rfl, hT, l, KQ.refl _ _⟩
  | succ d ih =>
    intro i acc A T hi hT l
    have l' := l.stone c (nI i)
    rw [hT] at l'
    have hT' : ∀ x, upd (upd S c (nI i)) c x = upd S c x := fun x => upd_upd _ _ _ _
    have k1 : KQ A I (ropU A 6 (upd (A 6) c (nI i))) I := KQ.row A I _ (by omega)
    have hs := m_sayer (h := h) (m := m) (u := u) (v := v) l' hn hn (by omega) hrs hp
    rw [q_M_look_47, if_neg (show ¬ (10 : Int32) ≤ nI i from nI_ge (b := 10) (by omega) (by decide)), mr_9, ma_6 (by omega), m_has, cI_some, nI_1, add_0, mc, hs, cI_some]
    rw [ssL, mQ_stone]
    rcases and1 (fit >>> (nI i &&& 31)) with e | e
    · rw [e, if_pos rfl, if_neg (by decide)]
      obtain ⟨A', T', e1, r1, r2, k2⟩ := ih (i + 1) acc _ _ (by omega) hT' l'
      exact ⟨A', T', e1, r1, r2, k1.trans k2⟩
    · rw [e, if_neg (by decide), if_pos rfl]
      split
      · obtain ⟨A', T', e1, r1, r2, k2⟩ := ih (i + 1) (acc + 1) _ _ (by omega) hT' l'
        exact ⟨A', T', e1, r1, r2, k1.trans k2⟩
      · obtain ⟨A', T', e1, r1, r2, k2⟩ := ih (i + 1) acc _ _ (by omega) hT' l'
        exact ⟨A', T', e1, r1, r2, k1.trans k2⟩
theorem m_look_loop (hn : n ≤ 5) {c t : Nat} (hc : c < n) (hrs : rs < 256) (ht : t < 1024) (h0 : 0 < t) : ∀ (d p : Nat) (best least : Int32) (x6 x7 : Option Value) (A : Nat → Nat → Int32) (T : Nat → Int32), p + d = 8 → (∀ x, upd T c x = upd S c x) → Lay f n n idN K T 0 rs A I → ∃ A', pt_M_look_30 m (nI c) (nI t) best least (nI p) x6 x7 (mH h m A I u v) = some (some (.int (tpL (fun p => ssL n (mQ f idN K S 0 rs) (WF f) c p (nI t) 10 0 0) (nI (bcN 10 t 0)) d p best least)), mH h m A' I u v) ∧ KQ A I A' I := by
  intro d
  induction d with
  | zero =>
    intro p best least x6 x7 A T hp hT l
    rw [q_M_look_30, if_pos (show (8 : Int32) ≤ nI p from nI_le (a := 8) (by omega) (by omega))]
    exact ⟨A, rfl, KQ.refl _ _⟩
  | succ d ih =>
    intro p best least x6 x7 A T hp hT l
    obtain ⟨A1, T1, e1, r1, l1, k1⟩ := m_yes_loop (h := h) (m := m) (u := u) (v := v) hn hc (p := p) (by omega) hrs (nI t) best least 10 0 0 A T (by omega) hT l
    rw [nI_0] at e1
    obtain ⟨y, ey, hy⟩ := ss_nI n (mQ f idN K S 0 rs) (WF f) c p t 10 0 0
    rw [nI_0] at ey
    rw [cntF_bc t ht] at hy
    have hb := bcN_10 t ht
    have hg := gt_eq (bcN 10 t 0) (by omega) y (by omega)
    rw [q_M_look_30, if_neg (show ¬ (8 : Int32) ≤ nI p from nI_ge (b := 8) (by omega) (by decide)), if_neg (nI_nle h0 (by omega)), e1, q_M_look_47, if_pos (show (10 : Int32) ≤ nI 10 by decide), m_bits ht, cI_some, ey, m_bits ht, cI_some]
    simp only [q_M_look_135, nI_1]
    have key : ∀ g best' least', (∃ A', pt_M_look_30 m (nI c) (nI t) best' least' (nI (p + 1)) (some (.int (nI y))) (some (.int g)) (mH h m A1 I u v) = some (some (.int (tpL (fun p => ssL n (mQ f idN K S 0 rs) (WF f) c p (nI t) 10 0 0) (nI (bcN 10 t 0)) d (p + 1) best' least')), mH h m A' I u v) ∧ KQ A I A' I) := fun g best' least' => by
      obtain ⟨A2, e2, k2⟩ := ih (p + 1) best' least' (some (.int (nI y))) (some (.int g)) A1 T1 (by omega) r1 l1
      exact ⟨A2, e2, k1.trans k2⟩
    rw [tpL]
    simp only [ey]
    by_cases h2 : (2 : Int32) * nI y ≤ nI (bcN 10 t 0)
    · rw [if_pos h2] at hg ⊢
      rw [hg]
      by_cases h3 : least ≤ gtV (nI (bcN 10 t 0)) (nI y)
      · simp only [if_pos h3]
        exact key _ _ _
      · simp only [if_neg h3]
        exact key _ _ _
    · rw [if_neg h2] at hg ⊢
      rw [← hg]
      by_cases h3 : least ≤ nI y
      · simp only [if_pos h3]
        exact key _ _ _
      · simp only [if_neg h3]
        exact key _ _ _
theorem m_look (F : Fo f n a sg rs) (N : No f nn) {A : Nat → Nat → Int32} (hA : A 0 = f) {c : Nat} (hc : c < n) : ∃ A' I', (ab_cI (fn_M_stonesOf m (nI c) (mH h m A I u v)) fun v4 h3 => pt_M_look_30 m (nI c) v4 (-1 : Int32) (1000000 : Int32) (0 : Int32) none none h3) = some (some (.int (telV n (ropU (RF f sg rs) 5 (bt1 0)) (WF f) c (fitL n (ropU (RF f sg rs) 5 (bt1 0)) (WF f) (NF f) nn 3 c 10 0 0))), mH h m A' I' u v) ∧ KQ A I A' I' := by
  obtain ⟨A1, I1, T1, e1, r1, l1, k1⟩ := m_stonesOf (h := h) (m := m) (u := u) (v := v) (I := I) F N hA hc
  obtain ⟨t, et, ht⟩ := fit_nI n (ropU (RF f sg rs) 5 (bt1 0)) (WF f) (NF f) nn 3 c 10 0 0 (by omega) (by decide)
  rw [nI_0] at et
  have ht : t < 1024 := ht
  rw [e1, cI_some, et]
  unfold telV
  rw [bcE_bc t ht]
  by_cases h0 : t = 0
  · subst h0
    rw [if_pos (by decide), q_M_look_30, if_neg (by decide), if_pos (by decide)]
    exact ⟨A1, I1, rfl, k1⟩
  · have hb : bcN 10 t 0 ≠ 0 := fun z => h0 ((bcN_0 t ht).mp z)
    have hb10 := bcN_10 t ht
    rw [if_neg (nI_ne0 (by omega) (by omega))]
    obtain ⟨A2, e2, k2⟩ := m_look_loop (h := h) (m := m) (u := u) (v := v) F.1 hc (by have := F.rs32; omega) ht (by omega) 8 0 (-1) 1000000 none none A1 T1 (by omega) r1 l1
    rw [nI_0] at e2
    refine ⟨A2, I1, ?_, k1.trans k2⟩
    rw [e2]
    have hz : ropU (RF f sg rs) 5 (bt1 0) = mQ f idN (fK f) (fS f) 0 rs := mQ_sag _ _ _ _ _ _
    rw [hz]
    obtain ⟨y, ey, hy⟩ := ss_nI n (mQ f idN (fK f) (fS f) 0 rs) (WF f) c 0 t 10 0 0
    rw [nI_0] at ey
    rw [cntF_bc t ht] at hy
    obtain ⟨g1, g2⟩ := gt_le (bcN 10 t 0) (by omega) y (by omega)
    have E : ∀ (Sy : Nat → Int32) (all first least : Int32), tpL Sy all 8 0 first least = if least ≤ gtV all (Sy 0) then tpL Sy all 7 (0 + 1) first least else tpL Sy all 7 (0 + 1) (nI 0) (gtV all (Sy 0)) := fun _ _ _ _ => rfl
    rw [E, E]
    simp only [ey]
    rw [if_neg g1, if_neg g2]
end
