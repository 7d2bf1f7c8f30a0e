/-! Text, both: all items; read -/
section
variable {ro : Nat → Option ab_Ce}
def BegF (g : Nat → Int32) : Prop := Beg g ∧ ∀ k, 38 ≤ k → k < 70 → g k = 0
theorem m_begin2 {h : ab_H} {r len : Nat} {g : Nat → Int32} (hg : ab_get h r = some (.inl (0, len, g))) (hl : 70 ≤ len) (hl2 : len ≤ 200) : ∃ g', fn_M_begin r h = some (none, ab_set h r (.inl (0, len, g'))) ∧ BegF g' := by
  obtain ⟨g1, e1, r1⟩ := m_beg2 (h := h) (r := r) hl hl2 70 0 g (by omega) (fun k hk => absurd hk (Nat.not_lt_zero k))
  obtain ⟨g2, e2, r2, r3⟩ := m_beg20 (h := h) (r := r) hl hl2 8 0 g1 (by omega)
  rw [nI_0] at e1 e2
  rw [set_self hg] at e1
  refine ⟨g2, ?_, ⟨fun k hk => ?_, fun p hp => ⟨?_, ?_, (r2 p (by omega) hp).1, (r2 p (by omega) hp).2⟩⟩, fun k h1 h2 => ?_⟩
  · rw [q_M_begin, e1, e2]
  · rw [r3 k (by omega), r1 k (by omega)]
  · rw [r3 _ (by omega), r1 _ (by omega)]
  · rw [r3 _ (by omega), r1 _ (by omega)]
  · rw [r3 k (by omega), r1 k h2]
theorem BegF.eq {g f : Nat → Int32} (a : BegF g) (c : BegF f) : ∀ k, k < 70 → g k = f k := by
  intro k hk
  by_cases h1 : k < 6
  · rw [a.1.1 k h1, c.1.1 k h1]
  · by_cases h2 : 38 ≤ k
    · rw [a.2 k h2 hk, c.2 k h2 hk]
    · obtain ⟨a0, a1, a2, a3⟩ := a.1.2 ((k - 6) / 4) (by omega)
      obtain ⟨c0, c1, c2, c3⟩ := c.1.2 ((k - 6) / 4) (by omega)
      rcases (show k = 6 + 4 * ((k - 6) / 4) ∨ k = 6 + 4 * ((k - 6) / 4) + 1 ∨ k = 6 + 4 * ((k - 6) / 4) + 2 ∨ k = 6 + 4 * ((k - 6) / 4) + 3 by omega) with e | e | e | e
      · rw [e, a0, c0]
      · rw [e, a1, c1]
      · rw [e, a2, c2]
      · rw [e, a3, c3]
theorem begF_ex : ∃ g, BegF g := by
  obtain ⟨g, -, h⟩ := m_begin2 (h := (0, fun _ => some (.inl (0, 70, fun _ => 0)))) (r := 0) (len := 70) (g := fun _ => 0) rfl (by omega) (by omega)
  exact ⟨g, h⟩
theorem m_copy70 {h : ab_H} {m : Nat} {A : Nat → Nat → Int32} {I : Nat → Int32} {u v : Int64} (x1 : Int32) : ∀ (d k : Nat) (g : Nat → Int32), k + d = 70 → (∀ j, j < k → g j = A 11 j) → ∃ g', pt_M_read_107 m x1 (nI k) (mH h m (ropU A 0 g) I u v) = some (some (.int x1), mH h m (ropU A 0 g') I u v) ∧ (∀ j, j < 70 → g' j = A 11 j) := by
  intro d
  induction d with
  | zero =>
    intro k g hk hg
    rw [q_M_read_107, if_pos (show (70 : Int32) ≤ nI k from nI_le (a := 70) (by omega) (by omega))]
    exact ⟨g, rfl, fun j hj => hg j (by omega)⟩
  | succ d ih =>
    intro k g hk hg
    rw [q_M_read_107, if_neg (show ¬ (70 : Int32) ≤ nI k from nI_ge (b := 70) (by omega) (by decide)), mr_0, mr_21, ml_11 (by omega), ma_0 (by omega), ropU_rr, ropU_at, nI_1]
    refine ih (k + 1) _ (by omega) (fun j hj => ?_)
    by_cases e : j = k
    · subst e
      exact up_at _ _ _
    · rw [up_ne _ _ e]
      exact hg j (by omega)
def CAl (b : Nat → Int32) (L q : Nat) (c i : Nat) (g : Nat → Int32) (n : Nat) (r : Int32) (q1 : Nat) (P : ab_H → Nat → Prop) : Prop := ∀ (x s : Nat) (h : ab_H), CT h x b L q → StrOk h → 16 ≤ s → s + 21 ≤ x → DI h s g n → ∃ h', pt_Text_tellAll_32 x s (nI c) (nI i) h = some (some (.int r), h') ∧ CT h' x b L q1 ∧ P h' s ∧ Fr2 h h' x s
theorem p_all {b : Nat → Int32} {L : Nat} (hL : L ≤ 150) : ∀ (k q i c : Nat) (g : Nat → Int32) (n : Nat), q ≤ L → L - q ≤ k → i + k = 150 → Gd g n 0 0 0 0 0 →
    (∃ q1, q1 ≤ L ∧ CAl b L q c i g n (-10 - nI (tS b L q1)) q1 Shp ∧ (∀ (h : ab_H) (m : Nat) (A : Nat → Nat → Int32) (I : Nat → Int32) (u v : Int64) (x2 : Option Value), A 10 = b → MTk I b L q → (∀ k, k < 70 → A 11 k = g k) → ∃ A' I', pt_M_read_65 m (nI c) x2 (mH h m A I u v) = some (some (.int (-10 - nI (tS b L q1))), mH h m A' I' u v) ∧ I' 16 = nI L ∧ (∀ j, j ≠ 11 → j ≠ 12 → A' j = A j))) ∨
    (∃ q1 g' n' c', c' ≤ c + k ∧ Gd g' n' 0 0 0 0 0 ∧ CAl b L q c i g n (nI c') q1 (fun h' s => DI h' s g' n') ∧ (∀ (h : ab_H) (m : Nat) (A : Nat → Nat → Int32) (I : Nat → Int32) (u v : Int64) (x2 : Option Value), A 10 = b → MTk I b L q → (∀ k, k < 70 → A 11 k = g k) → ∃ A' I', pt_M_read_65 m (nI c) x2 (mH h m A I u v) = some (some (.int (nI c')), mH h m A' I' u v) ∧ I' 16 = nI L ∧ (∀ k, k < 70 → A' 0 k = g' k) ∧ (∀ j, j ≠ 0 → j ≠ 11 → j ≠ 12 → A' j = A j))) := by
  intro k
  induction k with
  | zero =>
    intro q i c g n hq hk hi G
    have hT : tT b L q = 4 := by
      have := tk_le b hq
      exact if_pos (by omega)
    refine Or.inr ⟨q, g, n, c, by omega, G, fun x s h hx hS h1 h2 hD => ?_, fun h m A I u v x2 hb hM hP => ?_⟩
    · refine ⟨h, ?_, hx, hD, Fr2.refl _ _ _⟩
      rw [q_Text_tellAll_32, if_pos (show (150 : Int32) ≤ nI i from nI_le (a := 150) (by omega) (by omega))]
    · obtain ⟨g1, e1, r1⟩ := m_copy70 (h := h) (m := m) (A := A) (I := I) (u := u) (v := v) (nI c) 70 0 (A 0) (by omega) (fun j hj => absurd hj (Nat.not_lt_zero j))
      rw [ropU_self, nI_0] at e1
      refine ⟨ropU A 0 g1, I, ?_, hM.2.2.2.2, fun k hk => (r1 k hk).trans (hP k hk), fun j j0 _ _ => ropU_ne _ _ j0⟩
      rw [q_M_read_65, mi_19, hM.2.2.1, if_pos (mt_0.mpr hT), e1]
  | succ k ih =>
    intro q i c g n hq hk hi G
    by_cases hT : tT b L q = 4
    · refine Or.inr ⟨q, g, n, c, by omega, G, fun x s h hx hS h1 h2 hD => ?_, fun h m A I u v x2 hb hM hP => ?_⟩
      · refine ⟨h, ?_, hx, hD, Fr2.refl _ _ _⟩
        rw [q_Text_tellAll_32, if_neg (show ¬ (150 : Int32) ≤ nI i from nI_ge (b := 150) (by omega) (by decide)), tx_t hx, if_pos hT]
      · obtain ⟨g1, e1, r1⟩ := m_copy70 (h := h) (m := m) (A := A) (I := I) (u := u) (v := v) (nI c) 70 0 (A 0) (by omega) (fun j hj => absurd hj (Nat.not_lt_zero j))
        rw [ropU_self, nI_0] at e1
        refine ⟨ropU A 0 g1, I, ?_, hM.2.2.2.2, fun k hk => (r1 k hk).trans (hP k hk), fun j j0 _ _ => ropU_ne _ _ j0⟩
        rw [q_M_read_65, mi_19, hM.2.2.1, if_pos (mt_0.mpr hT), e1]
    · have hm0 : ¬ mtV b L q = 0 := fun z => hT (mt_0.mp z)
      rcases p_item (b := b) hL hq G with ⟨q1, a1, ⟨g', n', a2⟩, a3⟩ | ⟨q1, g', n', b0, b1, b2, G', a2, a3⟩
      · refine Or.inl ⟨q1, a1, fun x s h hx hS h1 h2 hD => ?_, fun h m A I u v x2 hb hM hP => ?_⟩
        · obtain ⟨h', e1, x1, -, s1, f1⟩ := a2 x s h hx hS h1 h2 hD
          refine ⟨h', ?_, x1, s1, f1⟩
          rw [q_Text_tellAll_32, if_neg (show ¬ (150 : Int32) ≤ nI i from nI_ge (b := 150) (by omega) (by decide)), tx_t hx, if_neg hT, tx_c hx, e1, cI_some, if_pos rfl, tx_s x1]
        · obtain ⟨r, A', I', e1, t1, o1, k1⟩ := a3 h m A I u v hb hM hP
          refine ⟨A', I', ?_, t1.2.2.2.2, k1⟩
          rw [q_M_read_65, mi_19, hM.2.2.1, if_neg hm0, mc, e1, cI_some]
          rcases o1 with z | ⟨z, st⟩
          · rw [z, if_pos rfl, mi_17, t1.1]
          · rw [z, if_neg z10, mi_19, t1.2.2.1, if_neg (fun y => st (mt_3.mp y)), mi_17, t1.1]
      · have hlt := tk_lt b b1 (by rw [b2]; decide)
        have hle := tk_le b b1
        have cls : ∀ (x s : Nat) (h : ab_H), CT h x b L q → StrOk h → 16 ≤ s → s + 21 ≤ x → DI h s g n → ∃ h1, pt_Text_tellAll_32 x s (nI c) (nI i) h = pt_Text_tellAll_32 x s (nI (c + 1)) (nI (i + 1)) h1 ∧ CT h1 x b L (tE b L q1) ∧ DI h1 s g' n' ∧ Fr2 h h1 x s := fun x s h hx hS h1 h2 hD => by
          obtain ⟨h', e1, x1, d1, -, f1⟩ := a2 x s h hx hS h1 h2 hD
          refine ⟨h', ?_, x1, d1 rfl, f1⟩
          rw [q_Text_tellAll_32, if_neg (show ¬ (150 : Int32) ≤ nI i from nI_ge (b := 150) (by omega) (by decide)), tx_t hx, if_neg hT, tx_c hx, e1, cI_some, if_neg z10, nI_1, nI_1]
        have mdl : ∀ (h : ab_H) (m : Nat) (A : Nat → Nat → Int32) (I : Nat → Int32) (u v : Int64) (x2 : Option Value), A 10 = b → MTk I b L q → (∀ k, k < 70 → A 11 k = g k) → ∃ A' I', pt_M_read_65 m (nI c) x2 (mH h m A I u v) = pt_M_read_65 m (nI (c + 1)) x2 (mH h m A' I' u v) ∧ MTk I' b L (tE b L q1) ∧ (∀ k, k < 70 → A' 11 k = g' k) ∧ (∀ j, j ≠ 11 → j ≠ 12 → A' j = A j) := fun h m A I u v x2 hb hM hP => by
          obtain ⟨A', I', e1, t1, o1, k1⟩ := a3 h m A I u v hb hM hP
          obtain ⟨I2, e2, t2⟩ := m_behind (h := h) (m := m) (u := u) (v := v) ((k1 10 (by decide) (by decide)).trans hb) t1 hL b1
          refine ⟨A', I2, ?_, t2, o1, k1⟩
          rw [q_M_read_65, mi_19, hM.2.2.1, if_neg hm0, mc, e1, cI_some, if_neg z10, mi_19, t1.2.2.1, if_pos (mt_3.mpr b2), mc, e2, cV_some, nI_1]
        rcases ih (tE b L q1) (i + 1) (c + 1) g' n' hle.2.2 (by omega) (by omega) G' with ⟨q2, d1, d2, d3⟩ | ⟨q2, g2, n2, c2, d0, d1, d2, d3⟩
        · refine Or.inl ⟨q2, d1, fun x s h hx hS h1 h2 hD => ?_, fun h m A I u v x2 hb hM hP => ?_⟩
          · obtain ⟨h', e1, x1, D1, f1⟩ := cls x s h hx hS h1 h2 hD
            obtain ⟨h2', e2, x2, D2, f2⟩ := d2 x s h' x1 (hS.fr f1 h1 (by omega)) h1 h2 D1
            exact ⟨h2', e1.trans e2, x2, D2, f1.trans f2⟩
          · obtain ⟨A', I', e1, t1, o1, k1⟩ := mdl h m A I u v x2 hb hM hP
            obtain ⟨A2, I2, e2, t2, k2⟩ := d3 h m A' I' u v x2 ((k1 10 (by decide) (by decide)).trans hb) t1 o1
            exact ⟨A2, I2, e1.trans e2, t2, fun j j1 j2 => (k2 j j1 j2).trans (k1 j j1 j2)⟩
        · refine Or.inr ⟨q2, g2, n2, c2, by omega, d1, fun x s h hx hS h1 h2 hD => ?_, fun h m A I u v x2 hb hM hP => ?_⟩
          · obtain ⟨h', e1, x1, D1, f1⟩ := cls x s h hx hS h1 h2 hD
            obtain ⟨h2', e2, x2, D2, f2⟩ := d2 x s h' x1 (hS.fr f1 h1 (by omega)) h1 h2 D1
            exact ⟨h2', e1.trans e2, x2, D2, f1.trans f2⟩
          · obtain ⟨A', I', e1, t1, o1, k1⟩ := mdl h m A I u v x2 hb hM hP
            obtain ⟨A2, I2, e2, t2, o2, k2⟩ := d3 h m A' I' u v x2 ((k1 10 (by decide) (by decide)).trans hb) t1 o1
            exact ⟨A2, I2, e1.trans e2, t2, o2, fun j j0 j1 j2 => (k2 j j0 j1 j2).trans (k1 j j1 j2)⟩
theorem flt_neg : ∀ s, s < 151 → (-10 : Int32) - nI s < 0 := by decide +kernel
theorem Gd.low {f g : Nat → Int32} {n : Nat} (G : Gd g n 0 0 0 0 0) (e : ∀ k, k < 70 → f k = g k) : Gd f n 0 0 0 0 0 := ⟨G.1.cong (fun k hk => e k (by omega)), G.2.1.cong (e 4 (by omega)) (fun k h1 h2 => e k (by omega)), wo_cong G.2.2.1 (fun k h1 h2 => e k (by omega)), by omega, (e 5 (by omega)).trans G.2.2.2.2.1, fun i hi => absurd hi (Nat.not_lt_zero i)⟩
theorem ScIs.low {h : ab_H} {s : Nat} {f g : Nat → Int32} {n : Nat} (S : ScIs h s g n 0 0 0 0 0) (G : Gd g n 0 0 0 0 0) (e : ∀ k, k < 70 → f k = g k) : ScIs h s f n 0 0 0 0 0 := by
  obtain ⟨W, R, N, U, s1, s2, s3, s4, s5⟩ := S
  exact ⟨W, R, N, U, s1, we_cong s2 (fun k h1 h2 => e k (by omega)), re_cong s3 G.1.1 (fun k h1 h2 => e k (by omega)), fun j hj i hi => absurd hi (Nat.not_lt_zero i), fun j hj i hi => absurd hi (Nat.not_lt_zero i)⟩
/-- the read-only cells are the four words -/
def RoW (ro : Nat → Option ab_Ce) : Prop := ∀ k, 1 ≤ k → k ≤ 8 → ro k = ab_ro 0 (fun _ => 0) k
theorem wS_ok : ∀ i, i < 4 → ∀ j, j < st_len.getD i 0 → ∃ c, c < 128 ∧ wS i j = nI c := by decide +kernel
theorem RoW.str {h : ab_H} {x : Nat} (R : RoW ro) (H : Hk ro h x) : StrOk h := by
  have e : ∀ k, 1 ≤ k → k ≤ 8 → ab_get h k = ab_ro 0 (fun _ => 0) k := fun k h1 h2 => (H.2.2 k (by omega)).trans (R k h1 h2)
  refine ⟨⟨e 1 (by omega) (by omega), e 5 (by omega) (by omega), by omega, ?_⟩, ⟨e 2 (by omega) (by omega), e 6 (by omega) (by omega), by omega, ?_⟩, ⟨e 3 (by omega) (by omega), e 7 (by omega) (by omega), by omega, ?_⟩, ⟨e 4 (by omega) (by omega), e 8 (by omega) (by omega), by omega, ?_⟩⟩
  · exact wS_ok 0 (by omega)
  · exact wS_ok 1 (by omega)
  · exact wS_ok 2 (by omega)
  · exact wS_ok 3 (by omega)
end
