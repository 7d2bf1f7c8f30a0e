/-! the fewest sags: the class's way and the reference's way to count them -/
def mfL (n : Nat) (V Q : Nat → Nat → Int32) (C : Nat → Int32) (m a : Nat) : Nat → Nat → Int32 → Int32
  | 0, _, acc => acc
  | k + 1, i, acc => mfL n V Q C m a k (i + 1) (if nI i &&& nI m = 0 then (if acc ≤ nI (pcN i) + C (nxN n (ropU Q 5 (bt1 (i ||| m))) V a) then acc else nI (pcN i) + C (nxN n (ropU Q 5 (bt1 (i ||| m))) V a)) else acc)
theorem pc_5 : ∀ i, i < 32 → pcN i ≤ 5 := by decide +kernel
theorem sh5_l : ∀ x, x < 1100 → nI x <<< ((5 : Int32) &&& 31) = nI (32 * x) := by decide +kernel
theorem sh5_r : ∀ y, y < 64 → ∀ s, s < 32 → nI (32 * y + s) >>> ((5 : Int32) &&& 31) = nI y := by decide +kernel
theorem sh5_m : ∀ y, y < 64 → ∀ s, s < 32 → nI (32 * y + s) &&& (31 : Int32) = nI s := by decide +kernel
/-- what both have found among the sets below i: nothing; or the least count, by the least set -/
def FI (cc : Nat → Nat) (m B i x y : Nat) : Prop := (x = 32000 ∧ y = 1000000 ∧ ∀ j, j < i → nI j &&& nI m = 0 → 1000000 ≤ pcN j + cc j) ∨
  (∃ s, s < i ∧ nI s &&& nI m = 0 ∧ pcN s + cc s = y ∧ y ≤ B + 5 ∧ x = 32 * y + s ∧ (∀ j, j < s → nI j &&& nI m = 0 → y < pcN j + cc j) ∧ (∀ j, j < i → nI j &&& nI m = 0 → y ≤ pcN j + cc j))
theorem FI_skip {cc : Nat → Nat} {m B i x y : Nat} (h : FI cc m B i x y) (hi : nI i &&& nI m = 0 → y ≤ pcN i + cc i) : FI cc m B (i + 1) x y := by
  rcases h with ⟨h1, h2, h3⟩ | ⟨s, h1, h2, h3, h4, h5, h6, h7⟩
  · refine Or.inl ⟨h1, h2, fun j hj hv => ?_⟩
    by_cases e : j = i
    · subst e
      have := hi hv
      omega
    · exact h3 j (by omega) hv
  · refine Or.inr ⟨s, by omega, h2, h3, h4, h5, h6, fun j hj hv => ?_⟩
    by_cases e : j = i
    · subst e
      exact hi hv
    · exact h7 j (by omega) hv
theorem fw_inv {n m a B : Nat} {V Q : Nat → Nat → Int32} {F C : Nat → Int32} {cc : Nat → Nat} (hB : B ≤ 40) (hc : ∀ i, i < 2 ^ n → C (nxN n (ropU Q 5 (bt1 (i ||| m))) V a) = nI (cc i) ∧ ((cc i ≤ B ∧ F (nxN n (ropU Q 5 (bt1 (i ||| m))) V a) = nI (cc i)) ∨ (cc i = 1000000 ∧ F (nxN n (ropU Q 5 (bt1 (i ||| m))) V a) = nI 1000))) (hn : n ≤ 5) : ∀ (d i x y : Nat), i + d = 2 ^ n → FI cc m B i x y → ∃ x' y', lfL n V Q F m a d i (nI x) = nI x' ∧ mfL n V Q C m a d i (nI y) = nI y' ∧ FI cc m B (2 ^ n) x' y' := by
  have h32 := pow_le32 hn
  intro d
  induction d with
  | zero =>
    intro i x y hi h
    have e : i = 2 ^ n := by omega
    subst e
    exact ⟨x, y, rfl, rfl, h⟩
  | succ d ih =>
    intro i x y hi h
    have hp := pc_5 i (by omega)
    obtain ⟨e1, e2⟩ := hc i (by omega)
    have hx : x ≤ 32000 ∧ y ≤ 1000000 := by
      rcases h with ⟨h1, h2, h3⟩ | ⟨s, h1, h2, h3, h4, h5, h6, h7⟩ <;> omega
    rw [lfL, mfL, e1, nI_add]
    by_cases hv : nI i &&& nI m = 0
    · rw [if_pos hv, if_pos hv]
      rcases e2 with ⟨c1, e2⟩ | ⟨c1, e2⟩
      · rw [e2, nI_add, sh5_l _ (by omega), nI_add]
        by_cases hy : y ≤ pcN i + cc i
        · rw [if_pos (nI_le hy (by omega))]
          have hnx : ¬ nI (32 * (pcN i + cc i) + i) < nI x := nI_nlt (by
            rcases h with ⟨h1, h2, h3⟩ | ⟨s, h1, h2, h3, h4, h5, h6, h7⟩ <;> omega) (by omega)
          rw [if_neg hnx]
          exact ih (i + 1) x y (by omega) (FI_skip h (fun _ => hy))
        · rw [if_neg (nI_ge (by omega) (by omega))]
          have hxx : nI (32 * (pcN i + cc i) + i) < nI x := nI_lt (by
            rcases h with ⟨h1, h2, h3⟩ | ⟨s, h1, h2, h3, h4, h5, h6, h7⟩ <;> omega) (by omega)
          rw [if_pos hxx]
          refine ih (i + 1) (32 * (pcN i + cc i) + i) (pcN i + cc i) (by omega) (Or.inr ⟨i, by omega, hv, rfl, by omega, rfl, fun j hj hj2 => ?_, fun j hj hj2 => ?_⟩)
          · rcases h with ⟨h1, h2, h3⟩ | ⟨s, h1, h2, h3, h4, h5, h6, h7⟩
            · have := h3 j hj hj2
              omega
            · have := h7 j hj hj2
              omega
          · by_cases e : j = i
            · subst e
              exact Nat.le_refl _
            · rcases h with ⟨h1, h2, h3⟩ | ⟨s, h1, h2, h3, h4, h5, h6, h7⟩
              · have := h3 j (by omega) hj2
                omega
              · have := h7 j (by omega) hj2
                omega
      · rw [e2, nI_add, sh5_l _ (by omega), nI_add, if_pos (nI_le (by omega) (by omega)), if_neg (nI_nlt (by omega) (by omega))]
        exact ih (i + 1) x y (by omega) (FI_skip h (fun _ => by omega))
    · rw [if_neg hv, if_neg hv]
      exact ih (i + 1) x y (by omega) (FI_skip h (fun z => absurd z hv))
/-- a cost, as both hold it -/
def Rq (B : Nat) (x y : Int32) : Prop := (∃ c, c ≤ B ∧ x = nI c ∧ y = nI c) ∨ (x = nI 1000 ∧ y = nI 1000000)
theorem Rq.cc {B : Nat} {x y : Int32} (h : Rq B x y) : ∃ c : Nat, y = nI c ∧ ((c ≤ B ∧ x = nI c) ∨ (c = 1000000 ∧ x = nI 1000)) := by
  rcases h with ⟨c, h1, h2, h3⟩ | ⟨h1, h2⟩
  · exact ⟨c, h3, Or.inl ⟨h1, h2⟩⟩
  · exact ⟨1000000, h2, Or.inr ⟨rfl, h1⟩⟩
theorem fw_all {n m a B : Nat} {V Q : Nat → Nat → Int32} {F C : Nat → Int32} (hB : B ≤ 40) (hn : n ≤ 5) (hr : ∀ i, i < 2 ^ n → Rq B (F (nxN n (ropU Q 5 (bt1 (i ||| m))) V a)) (C (nxN n (ropU Q 5 (bt1 (i ||| m))) V a))) : ∃ cc x y, (∀ i, i < 2 ^ n → C (nxN n (ropU Q 5 (bt1 (i ||| m))) V a) = nI (cc i) ∧ cc i ≤ 1000000) ∧ lfL n V Q F m a (2 ^ n) 0 32000 = nI x ∧ mfL n V Q C m a (2 ^ n) 0 1000000 = nI y ∧ FI cc m B (2 ^ n) x y := by
  have hx : ∃ cc : Nat → Nat, ∀ i, i < 2 ^ n → C (nxN n (ropU Q 5 (bt1 (i ||| m))) V a) = nI (cc i) ∧ ((cc i ≤ B ∧ F (nxN n (ropU Q 5 (bt1 (i ||| m))) V a) = nI (cc i)) ∨ (cc i = 1000000 ∧ F (nxN n (ropU Q 5 (bt1 (i ||| m))) V a) = nI 1000)) := by
    have : ∀ i, ∃ c : Nat, i < 2 ^ n → C (nxN n (ropU Q 5 (bt1 (i ||| m))) V a) = nI c ∧ ((c ≤ B ∧ F (nxN n (ropU Q 5 (bt1 (i ||| m))) V a) = nI c) ∨ (c = 1000000 ∧ F (nxN n (ropU Q 5 (bt1 (i ||| m))) V a) = nI 1000)) := fun i => by
      by_cases hi : i < 2 ^ n
      · obtain ⟨c, h⟩ := (hr i hi).cc
        exact ⟨c, fun _ => h⟩
      · exact ⟨0, fun z => absurd z hi⟩
    exact Classical.axiomOfChoice this
  obtain ⟨cc, hc⟩ := hx
  obtain ⟨x, y, h1, h2, h3⟩ := fw_inv hB hc hn (2 ^ n) 0 32000 1000000 (by omega) (Or.inl ⟨rfl, rfl, fun j hj => absurd hj (Nat.not_lt_zero j)⟩)
  exact ⟨cc, x, y, fun i hi => ⟨(hc i hi).1, by have := (hc i hi).2; omega⟩, h1, h2, h3⟩
theorem fw_rq {n m a B : Nat} {V Q : Nat → Nat → Int32} {F C : Nat → Int32} (hB : B ≤ 40) (hn : n ≤ 5) (hr : ∀ i, i < 2 ^ n → Rq B (F (nxN n (ropU Q 5 (bt1 (i ||| m))) V a)) (C (nxN n (ropU Q 5 (bt1 (i ||| m))) V a))) : Rq (B + 5) (lfL n V Q F m a (2 ^ n) 0 32000 >>> ((5 : Int32) &&& 31)) (mfL n V Q C m a (2 ^ n) 0 1000000) := by
  have h32 := pow_le32 hn
  obtain ⟨cc, x, y, -, h1, h2, h3⟩ := fw_all hB hn hr
  rw [h1, h2]
  rcases h3 with ⟨e1, e2, -⟩ | ⟨s, g1, g2, g3, g4, g5, g6, g7⟩
  · subst e1
    subst e2
    exact Or.inr ⟨by decide, rfl⟩
  · subst g5
    rw [sh5_r y (by omega) s (by omega)]
    exact Or.inl ⟨y, g4, rfl, rfl⟩
theorem nI_or : ∀ i, i < 32 → ∀ s, s < 32 → nI i ||| nI s = nI (i ||| s) ∧ i ||| s < 32 := by decide +kernel
section
variable {h : ab_H} {m : Nat} {u v : Int64} {f : Nat → Int32} {n a rs sg : Nat} {A : Nat → Nat → Int32}
theorem m_few_loop (F : Fo f n a sg rs) (hw : WallOk (WF f)) {q k : Nat} (hq : q < 8) (hk : k < 32) : ∀ (d i : Nat) (acc : Int32) (x5 : Option Value) (s : Nat) (I : Nat → Int32), i + d = 2 ^ n → Lay f n n idN (fK f) (fS f) s rs A I → ∃ I' s', pt_M_fewestAt_6 m (nI q) (nI k) acc (nI i) x5 (mH h m A I u v) = some (some (.int (mfL n (WF f) (RF f sg rs) (A 7) k q d i acc)), mH h m A I' u v) ∧ Lay f n n idN (fK f) (fS f) s' rs A I' ∧ KQ A I A I' := by
  have hn := F.1
  have h32 := pow_le32 hn
  have h1 : 0 < 2 ^ n := Nat.pow_pos (by decide)
  intro d
  induction d with
  | zero =>
    intro i acc x5 s I hi l
    have e0 : A 0 0 = nI n := by rw [l.1]; exact F.2.1
    rw [q_M_fewestAt_6, mc, m_all hn e0, cI_some, if_pos (nI_lt (by omega) (by omega))]
    exact ⟨I, s, rfl, l, KQ.refl _ _⟩
  | succ d ih =>
    intro i acc x5 s I hi l
    have e0 : A 0 0 = nI n := by rw [l.1]; exact F.2.1
    obtain ⟨eo, ho⟩ := nI_or i (by omega) k hk
    have l' := l.sag (i ||| k)
    have hnx := m_nextOf (h := h) (m := m) (u := u) (v := v) l' hn hn (by omega) (by have := F.rs32; omega) hq
    have hz : ropU (RF f sg rs) 5 (bt1 (i ||| k)) = mQ f idN (fK f) (fS f) (i ||| k) rs := mQ_sag _ _ _ _ _ _
    obtain ⟨en, n1, n2⟩ := nx_is (n := n) (Q := mQ f idN (fK f) (fS f) (i ||| k) rs) hw hq
    rw [q_M_fewestAt_6, mc, m_all hn e0, cI_some, if_neg (nI_nlt (by omega) (by omega)), eo, mp_10, m_bits (by omega), cI_some, mr_12, mc, hnx, cI_some, en, ml_7 (by omega), bcN_pc i (by omega), nI_1, mfL, hz]
    have go : ∀ acc' x5, ∃ I' s', pt_M_fewestAt_6 m (nI q) (nI k) acc' (nI (i + 1)) x5 (mH h m A (upd I 10 (nI (i ||| k))) u v) = some (some (.int (mfL n (WF f) (RF f sg rs) (A 7) k q d (i + 1) acc')), mH h m A I' u v) ∧ Lay f n n idN (fK f) (fS f) s' rs A I' ∧ KQ A I A I' := fun acc' x5 => by
      obtain ⟨I', s', e3, l3, k3⟩ := ih (i + 1) acc' x5 _ _ (by omega) l'
      exact ⟨I', s', e3, l3, (KQ.int A I _ (by decide)).trans k3⟩
    split
    · split
      · exact go _ _
      · exact go _ _
    · exact go _ _
end
