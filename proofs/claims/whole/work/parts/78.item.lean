/-! Text, both: an item -/
def Fr2 (h h' : ab_H) (x s : Nat) : Prop := h'.1 = h.1 ∧ ∀ k, (k < s ∨ s + 21 ≤ k) → (k < x ∨ x + 2 ≤ k) → ab_get h' k = ab_get h k
theorem Fr2.refl (h : ab_H) (x s : Nat) : Fr2 h h x s := ⟨rfl, fun _ _ _ => rfl⟩
theorem Fr2.trans {h h1 h2 : ab_H} {x s : Nat} (f : Fr2 h h1 x s) (g : Fr2 h1 h2 x s) : Fr2 h h2 x s := ⟨g.1.trans f.1, fun k a b => (g.2 k a b).trans (f.2 k a b)⟩
theorem Fr2.tx {h h' : ab_H} {x s : Nat} (f : Frm h h' x 2) : Fr2 h h' x s := ⟨f.1, fun k _ b => f.2 k b⟩
theorem Fr2.sc {h h' : ab_H} {x s a n : Nat} (f : Frm h h' a n) (h1 : s ≤ a) (h2 : a + n ≤ s + 21) : Fr2 h h' x s := ⟨f.1, fun k b _ => f.2 k (by omega)⟩
def wS (i : Nat) : Nat → Int32 := fun j => (st_byt.getD i []).getD j 0
def StrOk (h : ab_H) : Prop := StAt h 1 4 (wS 0) ∧ StAt h 2 5 (wS 1) ∧ StAt h 3 3 (wS 2) ∧ StAt h 4 7 (wS 3)
theorem StAt.fr {h h' : ab_H} {x s k wl : Nat} {wf : Nat → Int32} (S : StAt h k wl wf) (f : Fr2 h h' x s) (h1 : k + 5 ≤ s) (h2 : k + 5 ≤ x) : StAt h' k wl wf := by
  obtain ⟨a, b, c, d⟩ := S
  exact ⟨by rw [f.2 _ (by omega) (by omega)]; exact a, by rw [f.2 _ (by omega) (by omega)]; exact b, c, d⟩
theorem StrOk.fr {h h' : ab_H} {x s : Nat} (S : StrOk h) (f : Fr2 h h' x s) (h1 : 16 ≤ s) (h2 : 16 ≤ x) : StrOk h' := ⟨S.1.fr f (by omega) (by omega), S.2.1.fr f (by omega) (by omega), S.2.2.1.fr f (by omega) (by omega), S.2.2.2.fr f (by omega) (by omega)⟩
theorem w_wall : ∀ i, i < 4 → wS 0 i = wfM 119 97 108 108 0 0 0 i := by decide +kernel
theorem w_pitch : ∀ i, i < 5 → wS 1 i = wfM 112 105 116 99 104 0 0 i := by decide +kernel
theorem w_ice : ∀ i, i < 3 → wS 2 i = wfM 105 99 101 0 0 0 0 i := by decide +kernel
theorem w_climb : ∀ i, i < 7 → wS 3 i = wfM 99 108 105 109 98 101 114 i := by decide +kernel
def pitF (g : Nat → Int32) (p : Nat) (y l r : Int32) : Nat → Int32 := upd (upd (upd g (6 + 4 * p + 1) y) (6 + 4 * p + 2) l) (6 + 4 * p + 3) r
theorem pit_ne (g : Nat → Int32) (p : Nat) (y l r : Int32) {k : Nat} (hk : ¬ (6 + 4 * p + 1 ≤ k ∧ k ≤ 6 + 4 * p + 3)) : pitF g p y l r k = g k := by
  unfold pitF
  rw [up_ne _ _ (by omega), up_ne _ _ (by omega), up_ne _ _ (by omega)]
theorem pit_at (g : Nat → Int32) (p : Nat) (y l r : Int32) : pitF g p y l r (6 + 4 * p + 1) = y ∧ pitF g p y l r (6 + 4 * p + 2) = l ∧ pitF g p y l r (6 + 4 * p + 3) = r := by
  unfold pitF
  refine ⟨?_, ?_, up_at _ _ _⟩
  · rw [up_ne _ _ (by omega), up_ne _ _ (by omega), up_at]
  · rw [up_ne _ _ (by omega), up_at]
section
variable {g : Nat → Int32} {n a sg rs nn un p : Nat}
theorem gd_pit (G : Gd g n a sg rs nn un) (hp : p < 8) (y : Int32) {l r : Nat} (h1 : p < l) (h2 : l ≤ 8) (h3 : p < r) (h4 : r ≤ 8) : Gd (pitF g p y (nI l) (nI r)) n a sg rs nn un := by
  have g0 : ∀ k, ¬ (6 + 4 * p + 1 ≤ k ∧ k ≤ 6 + 4 * p + 3) → pitF g p y (nI l) (nI r) k = g k := fun k hk => pit_ne g p y _ _ hk
  obtain ⟨-, a2, a3⟩ := pit_at g p y (nI l) (nI r)
  refine ⟨G.1.cong (fun k hk => g0 k (by omega)), G.2.1.cong (g0 4 (by omega)) (fun k h1 h2 => g0 k (by omega)), fun i hi => ?_, G.2.2.2.1, (g0 5 (by omega)).trans G.2.2.2.2.1, un_cong G.2.2.2.1 G.2.2.2.2.2 (fun k h1 h2 => g0 k (by omega))⟩
  by_cases e : i = p
  · subst e
    exact ⟨⟨l, a2, h1, h2⟩, ⟨r, a3, h3, h4⟩⟩
  · obtain ⟨⟨l', l1, l2⟩, ⟨r', r1, r2⟩⟩ := G.2.2.1 i hi
    exact ⟨⟨l', (g0 _ (by omega)).trans l1, l2⟩, ⟨r', (g0 _ (by omega)).trans r1, r2⟩⟩
theorem we_pit {W : Nat → Nat → Int32} (h : WEq W (WF g)) (hp : p < 8) (y l r : Int32) : WEq (telW W p y l r) (WF (pitF g p y l r)) := by
  obtain ⟨a1, a2, a3⟩ := pit_at g p y l r
  intro j hj i hi
  have sw := h j hj i hi
  show telW W p y l r j i = pitF g p y l r (6 + 4 * i + j)
  by_cases hiq : i = p
  · subst hiq
    match j, hj with
    | 0, _ => exact sw.trans (pit_ne g i y l r (k := 6 + 4 * i + 0) (by omega)).symm
    | 1, _ => exact (up_at _ _ _).trans a1.symm
    | 2, _ => exact (up_at _ _ _).trans a2.symm
    | 3, _ => exact (up_at _ _ _).trans a3.symm
    | k + 4, hj => omega
  · rw [pit_ne _ _ _ _ _ (by omega)]
    match j, hj with
    | 0, _ => exact sw
    | 1, _ => exact (up_ne _ _ hiq).trans sw
    | 2, _ => exact (up_ne _ _ hiq).trans sw
    | 3, _ => exact (up_ne _ _ hiq).trans sw
    | k + 4, hj => omega
theorem gd_ice (G : Gd g n a sg rs nn un) (hp : p < 8) (y : Int32) : Gd (upd g (6 + 4 * p + 0) y) n a sg rs nn un := by
  have g0 : ∀ k, k ≠ 6 + 4 * p + 0 → upd g (6 + 4 * p + 0) y k = g k := fun k hk => up_ne _ _ hk
  refine ⟨G.1.cong (fun k hk => g0 k (by omega)), G.2.1.cong (g0 4 (by omega)) (fun k h1 h2 => g0 k (by omega)), fun i hi => ?_, G.2.2.2.1, (g0 5 (by omega)).trans G.2.2.2.2.1, un_cong G.2.2.2.1 G.2.2.2.2.2 (fun k h1 h2 => g0 k (by omega))⟩
  obtain ⟨⟨l', l1, l2⟩, ⟨r', r1, r2⟩⟩ := G.2.2.1 i hi
  exact ⟨⟨l', (g0 _ (by omega)).trans l1, l2⟩, ⟨r', (g0 _ (by omega)).trans r1, r2⟩⟩
theorem we_ice {W : Nat → Nat → Int32} (h : WEq W (WF g)) (hp : p < 8) (y : Int32) : WEq (ropU W 0 (upd (W 0) p y)) (WF (upd g (6 + 4 * p + 0) y)) := by
  intro j hj i hi
  have sw := h j hj i hi
  show ropU W 0 (upd (W 0) p y) j i = upd g (6 + 4 * p + 0) y (6 + 4 * i + j)
  by_cases hj0 : j = 0
  · subst hj0
    rw [ropU_at]
    by_cases hiq : i = p
    · subst hiq
      rw [up_at, up_at]
    · rw [up_ne _ _ hiq, up_ne _ _ (by omega)]
      exact sw
  · rw [ropU_ne _ _ hj0, up_ne _ _ (by omega)]
    exact sw
theorem gd_clb (G : Gd g n 0 0 0 0 0) (hn : n < 5) (k w s q : Int32) : Gd (lcF g n k w s q) (n + 1) 0 0 0 0 0 := by
  have g0 : ∀ i, i ≠ 0 → (i < 38 + 4 * n ∨ 38 + 4 * n + 4 ≤ i) → lcF g n k w s q i = g i := fun i h0 h => lcF_ne _ _ _ _ _ _ h0 h
  obtain ⟨F0, F1, F2, F3, F4, F5, F6, F7⟩ := G.1
  exact ⟨⟨by omega, lcF_0 _ _ _ _ _ _, F2, (g0 1 (by omega) (by omega)).trans F3, Nat.pow_pos (by decide), (g0 2 (by omega) (by omega)).trans F5, Nat.pow_pos (by decide), (g0 3 (by omega) (by omega)).trans F7⟩, ⟨by omega, (g0 4 (by omega) (by omega)).trans G.2.1.2.1, fun i hi => absurd hi (Nat.not_lt_zero i)⟩, wo_cong G.2.2.1 (fun k h1 h2 => g0 k (by omega) (by omega)), by omega, (g0 5 (by omega) (by omega)).trans G.2.2.2.2.1, fun i hi => absurd hi (Nat.not_lt_zero i)⟩
end
/-- the class's scene at s after a part of a text -/
def DI (h : ab_H) (s : Nat) (g : Nat → Int32) (n : Nat) : Prop := ScIs h s g n 0 0 0 0 0
def CIt (b : Nat → Int32) (L q q1 : Nat) (g : Nat → Int32) (n : Nat) (r : Int32) (g' : Nat → Int32) (n' : Nat) : Prop := ∀ (x s : Nat) (h : ab_H), CT h x b L q → StrOk h → 16 ≤ s → s + 21 ≤ x → DI h s g n → ∃ h', fn_Text_tellItem x s h = some (some (.int r), h') ∧ CT h' x b L q1 ∧ (r = 1 → DI h' s g' n') ∧ Shp h' s ∧ Fr2 h h' x s
def MIt (b : Nat → Int32) (L q q1 : Nat) (g g' : Nat → Int32) : Prop := ∀ (h : ab_H) (m : Nat) (A : Nat → Nat → Int32) (I : Nat → Int32) (u v : Int64), A 10 = b → MTk I b L q → (∀ k, k < 70 → A 11 k = g k) → ∃ A' I', fn_M_takesItem m (mH h m A I u v) = some (some (.int 1), mH h m A' I' u v) ∧ MTk I' b L q1 ∧ (∀ k, k < 70 → A' 11 k = g' k) ∧ (∀ j, j ≠ 11 → j ≠ 12 → A' j = A j)
section
variable {b : Nat → Int32} {L q : Nat}
/-- what is left once the item's own part is told: the stop -/
theorem p_stop (hL : L ≤ 150) {q1 : Nat} (hq1 : q1 ≤ L) (x : Nat) (h : ab_H) (hx : CT h x b L q1) : (¬ tT b L q1 = 2 ∧ fn_Text_passStop x h = some (some (.int 0), h)) ∨ (tT b L q1 = 2 ∧ ∃ h', fn_Text_passStop x h = some (some (.int 1), h') ∧ CT h' x b L (tE b L q1) ∧ Frm h h' x 2) := by
  by_cases h2 : tT b L q1 = 2
  · exact Or.inr ⟨h2, t_stopYes hx hL hq1 h2⟩
  · exact Or.inl ⟨h2, t_stopNo hx h2⟩
theorem p_item (hL : L ≤ 150) (hq : q ≤ L) {g : Nat → Int32} {n : Nat} (G : Gd g n 0 0 0 0 0) :
    (∃ q1, q1 ≤ L ∧ (∃ g' n', CIt b L q q1 g n 0 g' n') ∧ MFl b L q q1 fn_M_takesItem (fun A => ∀ k, k < 70 → A 11 k = g k)) ∨
    (∃ q1 g' n', q ≤ q1 ∧ q1 ≤ L ∧ tT b L q1 = 2 ∧ Gd g' n' 0 0 0 0 0 ∧ CIt b L q (tE b L q1) g n 1 g' n' ∧ MIt b L q q1 g g') := by
  have le0 := tk_le b hq
  have hn := G.1.1
  have g00 : g 0 = nI n := G.1.2.1
  -- the words, on both sides
  have mw1 := fun (h : ab_H) (m : Nat) (A : Nat → Nat → Int32) (I : Nat → Int32) (u v : Int64) (hb : A 10 = b) (hM : MTk I b L q) => m_isWord (h := h) (m := m) (u := u) (v := v) hb hM hL hq (wl := 5) (by omega) 5 rfl 112 105 116 99 104 0 0
  have mw2 := fun (h : ab_H) (m : Nat) (A : Nat → Nat → Int32) (I : Nat → Int32) (u v : Int64) (hb : A 10 = b) (hM : MTk I b L q) => m_isWord (h := h) (m := m) (u := u) (v := v) hb hM hL hq (wl := 3) (by omega) 3 rfl 105 99 101 0 0 0 0
  have mw3 := fun (h : ab_H) (m : Nat) (A : Nat → Nat → Int32) (I : Nat → Int32) (u v : Int64) (hb : A 10 = b) (hM : MTk I b L q) => m_isWord (h := h) (m := m) (u := u) (v := v) hb hM hL hq (wl := 7) (by omega) 7 rfl 99 108 105 109 98 101 114
  rw [← wd_cong (L := L) (q := q) (b := b) w_pitch] at mw1
  rw [← wd_cong (L := L) (q := q) (b := b) w_ice] at mw2
  rw [← wd_cong (L := L) (q := q) (b := b) w_climb] at mw3
  rcases wd_01 b L q 5 (wS 1) with d1 | d1
  · rcases wd_01 b L q 3 (wS 2) with d2 | d2
    · rcases wd_01 b L q 7 (wS 3) with d3 | d3
      · refine Or.inl ⟨q, hq, ⟨g, n, fun x s h hx hS h1 h2 hD => ?_⟩, fun h m A I u v hb hM hP => ?_⟩
        · refine ⟨h, ?_, hx, fun z => absurd z (by decide), hD.shp, Fr2.refl _ _ _⟩
          rw [q_Text_tellItem, tx_c hx, t_isWord hx hS.2.1 hL hq, cI_some, d1, if_pos rfl, tx_c hx, t_isWord hx hS.2.2.1 hL hq, cI_some, d2, if_pos rfl, tx_c hx, t_isWord hx hS.2.2.2 hL hq, cI_some, d3, if_pos rfl, chk_b0]
        · refine ⟨0, A, I, ?_, hM, Or.inl rfl, fun _ _ _ => rfl⟩
          rw [q_M_takesItem, mc, mw1 h m A I u v hb hM, cI_some, d1, if_pos rfl, mc, mw2 h m A I u v hb hM, cI_some, d2, if_pos rfl, mc, mw3 h m A I u v hb hM, cI_some, d3, if_pos rfl, chk_b0]
      · by_cases h5 : n < 5
        · -- a climber
          have hn5 : ¬ (5 : Int32) ≤ nI n := nI_ge (b := 5) h5 (by decide)
          have pre : ∀ (x s : Nat) (h : ab_H), CT h x b L q → StrOk h → 16 ≤ s → s + 21 ≤ x → DI h s g n → ∃ h1 R Wl N U, CT h1 x b L (tE b L q) ∧ Frm h h1 x 2 ∧ SceneAt h1 s (Wl, n, R, 0, N, 0, U, 0) ∧ WEq Wl (WF g) ∧ REq n R (RF g 0 0) ∧ fn_Text_tellItem x s h = (ab_cI (fn_Text_tellClimber x (s + 6) h1) fun v12 h11 => (if v12 = 0 then (ab_chk 1 (0 : Int32) (some (some (.int (0 : Int32)), h11))) else (ab_ckc h11 x 4 (ab_cI (fn_Text_passStop x h11) fun v14 h13 => (if v14 = 0 then (ab_chk 1 (0 : Int32) (some (some (.int (0 : Int32)), h13))) else (ab_chk 1 (1 : Int32) (some (some (.int (1 : Int32)), h13)))))))) := fun x s h hx hS h1 h2 hD => by
            obtain ⟨Wl, R, N, U, s1, s2, s3, s4, s5⟩ := hD
            obtain ⟨h1', e1, x1, f1⟩ := t_adv hx hL le0.2.2
            have s1' := s1.frm f1 (by omega)
            refine ⟨h1', R, Wl, N, U, x1, f1, s1', s2, s3, ?_⟩
            rw [q_Text_tellItem, tx_c hx, t_isWord hx hS.2.1 hL hq, cI_some, d1, if_pos rfl, tx_c hx, t_isWord hx hS.2.2.1 hL hq, cI_some, d2, if_pos rfl, tx_c hx, t_isWord hx hS.2.2.2 hL hq, cI_some, d3, if_neg z10, sc_r s1, rp_n s1.2.2.1]
            show (if (5 : Int32) ≤ nI n then _ else _) = _
            rw [if_neg hn5, tx_c hx, e1, cV_some, sc_r s1', tx_c x1]
          have mpre : ∀ (h : ab_H) (m : Nat) (A : Nat → Nat → Int32) (I : Nat → Int32) (u v : Int64), A 10 = b → MTk I b L q → ∀ {r : Int32} {h' : ab_H}, (r = 0 ∨ r = 1) → fn_M_takesClimber m (mH h m A I u v) = some (some (.int r), h') → fn_M_takesItem m (mH h m A I u v) = some (some (.int r), h') := fun h m A I u v hb hM r h' hr e => by
            rw [q_M_takesItem, mc, mw1 h m A I u v hb hM, cI_some, d1, if_pos rfl, mc, mw2 h m A I u v hb hM, cI_some, d2, if_pos rfl, mc, mw3 h m A I u v hb hM, cI_some, d3, if_neg z10, mc, e, cI_some]
            rcases hr with z | z
            · rw [z, if_pos rfl, chk_b0]
            · rw [z, if_neg z10, chk_b1]
          rcases p_climber (b := b) hL hq h5 with ⟨q1, a1, a2, a3⟩ | ⟨q1, kd, wt, st, w, a0, a1, a2, a3⟩
          · refine Or.inl ⟨q1, a1, ⟨g, n, fun x s h hx hS h1 h2 hD => ?_⟩, fun h m A I u v hb hM hP => ?_⟩
            · obtain ⟨h1', R, Wl, N, U, x1, f1, s1, s2, s3, e1⟩ := pre x s h hx hS h1 h2 hD
              obtain ⟨h2', e2, x2, f2⟩ := a2 x (s + 6) h1' x1
              refine ⟨h2', ?_, x2, fun z => absurd z (by decide), ⟨_, s1.frm f2 (by omega)⟩, (Fr2.tx f1).trans (Fr2.tx f2)⟩
              rw [e1, e2, cI_some, if_pos rfl, chk_b0]
            · obtain ⟨r, A', I', e1, t1, o1, k1⟩ := a3 h m A I u v hb hM ((hP 0 (by omega)).trans g00)
              exact ⟨r, A', I', mpre h m A I u v hb hM (o1.elim Or.inl (fun z => Or.inr z.1)) e1, t1, o1, k1⟩
          · by_cases st2 : tT b L q1 = 2
            · refine Or.inr ⟨q1, lcF g n kd wt st w, n + 1, a0, a1, st2, gd_clb G h5 _ _ _ _, fun x s h hx hS h1 h2 hD => ?_, fun h m A I u v hb hM hP => ?_⟩
              · obtain ⟨h1', R, Wl, N, U, x1, f1, s1, s2, s3, e1⟩ := pre x s h hx hS h1 h2 hD
                obtain ⟨h0, h2', e2, x2, r2, f2, f3⟩ := a2 x (s + 6) h1' R x1 s1.2.2.1 (by omega)
                obtain ⟨h3, e3, x3, f4⟩ := t_stopYes x2 hL a1 st2
                have t1 := (sc_uR (s1.frm f2 (by omega)) f3 r2).frm f4 (by omega)
                have hg : ∀ k, k ≠ 0 → (k < 38 + 4 * n ∨ 38 + 4 * n + 4 ≤ k) → lcF g n kd wt st w k = g k := fun k z1 z2 => lcF_ne _ _ _ _ _ _ z1 z2
                refine ⟨h3, ?_, x3, fun _ => ⟨_, _, _, _, t1, we_cong s2 (fun k z1 z2 => hg k (by omega) (by omega)), re_add s3 h5 (Nat.pow_pos (by decide)) (Nat.pow_pos (by decide)) _ _ _ _ (fun _ _ _ => rfl), fun j hj i hi => absurd hi (Nat.not_lt_zero i), fun j hj i hi => absurd hi (Nat.not_lt_zero i)⟩, ⟨_, t1⟩, (((Fr2.tx f1).trans (Fr2.tx f2)).trans (Fr2.sc f3 (by omega) (by omega))).trans (Fr2.tx f4)⟩
                rw [e1, e2, cI_some, if_neg z10, tx_c x2, e3, cI_some, if_neg z10, chk_b1]
              · obtain ⟨A', I', e1, t1, o1, k1⟩ := a3 h m A I u v hb hM ((hP 0 (by omega)).trans g00)
                refine ⟨A', I', mpre h m A I u v hb hM (Or.inr rfl) e1, t1, fun k hk => ?_, k1⟩
                rw [o1]
                unfold lcF upd
                simp only [hP k hk]
            · refine Or.inl ⟨q1, a1, ⟨g, n, fun x s h hx hS h1 h2 hD => ?_⟩, fun h m A I u v hb hM hP => ?_⟩
              · obtain ⟨h1', R, Wl, N, U, x1, f1, s1, s2, s3, e1⟩ := pre x s h hx hS h1 h2 hD
                obtain ⟨h0, h2', e2, x2, r2, f2, f3⟩ := a2 x (s + 6) h1' R x1 s1.2.2.1 (by omega)
                have t1 := sc_uR (s1.frm f2 (by omega)) f3 r2
                refine ⟨h2', ?_, x2, fun z => absurd z (by decide), ⟨_, t1⟩, ((Fr2.tx f1).trans (Fr2.tx f2)).trans (Fr2.sc f3 (by omega) (by omega))⟩
                rw [e1, e2, cI_some, if_neg z10, tx_c x2, t_stopNo x2 st2, cI_some, if_pos rfl, chk_b0]
              · obtain ⟨A', I', e1, t1, o1, k1⟩ := a3 h m A I u v hb hM ((hP 0 (by omega)).trans g00)
                exact ⟨1, A', I', mpre h m A I u v hb hM (Or.inr rfl) e1, t1, Or.inr ⟨rfl, st2⟩, k1⟩
        · have hn5 : n = 5 := by omega
          subst hn5
          refine Or.inl ⟨q, hq, ⟨g, 5, fun x s h hx hS h1 h2 hD => ?_⟩, fun h m A I u v hb hM hP => ?_⟩
          · refine ⟨h, ?_, hx, fun z => absurd z (by decide), hD.shp, Fr2.refl _ _ _⟩
            have hsq := hD.sq
            rw [q_Text_tellItem, tx_c hx, t_isWord hx hS.2.1 hL hq, cI_some, d1, if_pos rfl, tx_c hx, t_isWord hx hS.2.2.1 hL hq, cI_some, d2, if_pos rfl, tx_c hx, t_isWord hx hS.2.2.2 hL hq, cI_some, d3, if_neg z10, sq_r hsq, ri_n hsq.2.2, if_pos (by decide), chk_b0]
          · refine ⟨0, A, I, ?_, hM, Or.inl rfl, fun _ _ _ => rfl⟩
            rw [q_M_takesItem, mc, mw1 h m A I u v hb hM, cI_some, d1, if_pos rfl, mc, mw2 h m A I u v hb hM, cI_some, d2, if_pos rfl, mc, mw3 h m A I u v hb hM, cI_some, d3, if_neg z10, mc, q_M_takesClimber, mr_21, ml_11_0, hP 0 (by omega), g00, if_pos (show nI 5 = (5 : Int32) from rfl), chk_b0, cI_some, if_pos rfl, chk_b0]
    · -- ice
      have pre : ∀ (x s : Nat) (h : ab_H), CT h x b L q → StrOk h → 16 ≤ s → s + 21 ≤ x → DI h s g n → ∃ h1 R Wl N U, CT h1 x b L (tE b L q) ∧ Frm h h1 x 2 ∧ SceneAt h1 s (Wl, n, R, 0, N, 0, U, 0) ∧ WEq Wl (WF g) ∧ REq n R (RF g 0 0) ∧ fn_Text_tellItem x s h = (ab_cI (fn_Text_tellIce x (s + 1) h1) fun v12 h11 => (if v12 = 0 then (ab_chk 1 (0 : Int32) (some (some (.int (0 : Int32)), h11))) else (ab_ckc h11 x 4 (ab_cI (fn_Text_passStop x h11) fun v14 h13 => (if v14 = 0 then (ab_chk 1 (0 : Int32) (some (some (.int (0 : Int32)), h13))) else (ab_chk 1 (1 : Int32) (some (some (.int (1 : Int32)), h13)))))))) := fun x s h hx hS h1 h2 hD => by
        obtain ⟨Wl, R, N, U, s1, s2, s3, s4, s5⟩ := hD
        obtain ⟨h1', e1, x1, f1⟩ := t_adv hx hL le0.2.2
        have s1' := s1.frm f1 (by omega)
        refine ⟨h1', R, Wl, N, U, x1, f1, s1', s2, s3, ?_⟩
        rw [q_Text_tellItem, tx_c hx, t_isWord hx hS.2.1 hL hq, cI_some, d1, if_pos rfl, tx_c hx, t_isWord hx hS.2.2.1 hL hq, cI_some, d2, if_neg z10, tx_c hx, e1, cV_some, sc_w s1', tx_c x1]
      have mpre : ∀ (h : ab_H) (m : Nat) (A : Nat → Nat → Int32) (I : Nat → Int32) (u v : Int64), A 10 = b → MTk I b L q → ∀ {r : Int32} {h' : ab_H}, (r = 0 ∨ r = 1) → fn_M_takesIce m (mH h m A I u v) = some (some (.int r), h') → fn_M_takesItem m (mH h m A I u v) = some (some (.int r), h') := fun h m A I u v hb hM r h' hr e => by
        rw [q_M_takesItem, mc, mw1 h m A I u v hb hM, cI_some, d1, if_pos rfl, mc, mw2 h m A I u v hb hM, cI_some, d2, if_neg z10, mc, e, cI_some]
        rcases hr with z | z
        · rw [z, chk_b0]
        · rw [z, chk_b1]
      rcases p_ice (b := b) hL hq with ⟨q1, a1, a2, a3⟩ | ⟨q1, p, a0, a1, hp, a2, a3⟩
      · refine Or.inl ⟨q1, a1, ⟨g, n, fun x s h hx hS h1 h2 hD => ?_⟩, fun h m A I u v hb hM hP => ?_⟩
        · obtain ⟨h1', R, Wl, N, U, x1, f1, s1, s2, s3, e1⟩ := pre x s h hx hS h1 h2 hD
          obtain ⟨h2', e2, x2, f2⟩ := a2 x (s + 1) h1' x1
          refine ⟨h2', ?_, x2, fun z => absurd z (by decide), ⟨_, s1.frm f2 (by omega)⟩, (Fr2.tx f1).trans (Fr2.tx f2)⟩
          rw [e1, e2, cI_some, if_pos rfl, chk_b0]
        · obtain ⟨r, A', I', e1, t1, o1, k1⟩ := a3 h m A I u v hb hM trivial
          exact ⟨r, A', I', mpre h m A I u v hb hM (o1.elim Or.inl (fun z => Or.inr z.1)) e1, t1, o1, k1⟩
      · by_cases st2 : tT b L q1 = 2
        · refine Or.inr ⟨q1, upd g (6 + 4 * p + 0) 1, n, a0, a1, st2, gd_ice G hp 1, fun x s h hx hS h1 h2 hD => ?_, fun h m A I u v hb hM hP => ?_⟩
          · obtain ⟨h1', R, Wl, N, U, x1, f1, s1, s2, s3, e1⟩ := pre x s h hx hS h1 h2 hD
            obtain ⟨h0, h2', e2, x2, r2, f2, f3⟩ := a2 x (s + 1) h1' Wl x1 s1.2.1 (by omega)
            obtain ⟨h3, e3, x3, f4⟩ := t_stopYes x2 hL a1 st2
            have t1 := (sc_uW (s1.frm f2 (by omega)) f3 r2).frm f4 (by omega)
            refine ⟨h3, ?_, x3, fun _ => ⟨_, _, _, _, t1, we_ice s2 hp 1, re_cong s3 hn (fun k z1 z2 => up_ne _ _ (by omega)), fun j hj i hi => absurd hi (Nat.not_lt_zero i), fun j hj i hi => absurd hi (Nat.not_lt_zero i)⟩, ⟨_, t1⟩, (((Fr2.tx f1).trans (Fr2.tx f2)).trans (Fr2.sc f3 (by omega) (by omega))).trans (Fr2.tx f4)⟩
            rw [e1, e2, cI_some, if_neg z10, tx_c x2, e3, cI_some, if_neg z10, chk_b1]
          · obtain ⟨A', I', e1, t1, o1, k1⟩ := a3 h m A I u v hb hM trivial
            refine ⟨A', I', mpre h m A I u v hb hM (Or.inr rfl) e1, t1, fun k hk => ?_, k1⟩
            rw [o1]
            unfold upd
            simp only [hP k hk]
        · refine Or.inl ⟨q1, a1, ⟨g, n, fun x s h hx hS h1 h2 hD => ?_⟩, fun h m A I u v hb hM hP => ?_⟩
          · obtain ⟨h1', R, Wl, N, U, x1, f1, s1, s2, s3, e1⟩ := pre x s h hx hS h1 h2 hD
            obtain ⟨h0, h2', e2, x2, r2, f2, f3⟩ := a2 x (s + 1) h1' Wl x1 s1.2.1 (by omega)
            have t1 := sc_uW (s1.frm f2 (by omega)) f3 r2
            refine ⟨h2', ?_, x2, fun z => absurd z (by decide), ⟨_, t1⟩, ((Fr2.tx f1).trans (Fr2.tx f2)).trans (Fr2.sc f3 (by omega) (by omega))⟩
            rw [e1, e2, cI_some, if_neg z10, tx_c x2, t_stopNo x2 st2, cI_some, if_pos rfl, chk_b0]
          · obtain ⟨A', I', e1, t1, o1, k1⟩ := a3 h m A I u v hb hM trivial
            exact ⟨1, A', I', mpre h m A I u v hb hM (Or.inr rfl) e1, t1, Or.inr ⟨rfl, st2⟩, k1⟩
  · -- a pitch
    have pre : ∀ (x s : Nat) (h : ab_H), CT h x b L q → StrOk h → 16 ≤ s → s + 21 ≤ x → DI h s g n → ∃ h1 R Wl N U, CT h1 x b L (tE b L q) ∧ Frm h h1 x 2 ∧ SceneAt h1 s (Wl, n, R, 0, N, 0, U, 0) ∧ WEq Wl (WF g) ∧ REq n R (RF g 0 0) ∧ fn_Text_tellItem x s h = (ab_cI (fn_Text_tellPitch x (s + 1) h1) fun v12 h11 => (if v12 = 0 then (ab_chk 1 (0 : Int32) (some (some (.int (0 : Int32)), h11))) else (ab_ckc h11 x 4 (ab_cI (fn_Text_passStop x h11) fun v14 h13 => (if v14 = 0 then (ab_chk 1 (0 : Int32) (some (some (.int (0 : Int32)), h13))) else (ab_chk 1 (1 : Int32) (some (some (.int (1 : Int32)), h13)))))))) := fun x s h hx hS h1 h2 hD => by
      obtain ⟨Wl, R, N, U, s1, s2, s3, s4, s5⟩ := hD
      obtain ⟨h1', e1, x1, f1⟩ := t_adv hx hL le0.2.2
      have s1' := s1.frm f1 (by omega)
      refine ⟨h1', R, Wl, N, U, x1, f1, s1', s2, s3, ?_⟩
      rw [q_Text_tellItem, tx_c hx, t_isWord hx hS.2.1 hL hq, cI_some, d1, if_neg z10, tx_c hx, e1, cV_some, sc_w s1', tx_c x1]
    have mpre : ∀ (h : ab_H) (m : Nat) (A : Nat → Nat → Int32) (I : Nat → Int32) (u v : Int64), A 10 = b → MTk I b L q → ∀ {r : Int32} {h' : ab_H}, (r = 0 ∨ r = 1) → fn_M_takesPitch m (mH h m A I u v) = some (some (.int r), h') → fn_M_takesItem m (mH h m A I u v) = some (some (.int r), h') := fun h m A I u v hb hM r h' hr e => by
      rw [q_M_takesItem, mc, mw1 h m A I u v hb hM, cI_some, d1, if_neg z10, mc, e, cI_some]
      rcases hr with z | z
      · rw [z, chk_b0]
      · rw [z, chk_b1]
    rcases p_pitch (b := b) hL hq with ⟨q1, a1, a2, a3⟩ | ⟨q1, p, l, r, y, a0, a1, hp, hl1, hl2, hr1, hr2, a2, a3⟩
    · refine Or.inl ⟨q1, a1, ⟨g, n, fun x s h hx hS h1 h2 hD => ?_⟩, fun h m A I u v hb hM hP => ?_⟩
      · obtain ⟨h1', R, Wl, N, U, x1, f1, s1, s2, s3, e1⟩ := pre x s h hx hS h1 h2 hD
        obtain ⟨h2', e2, x2, f2⟩ := a2 x (s + 1) h1' x1
        refine ⟨h2', ?_, x2, fun z => absurd z (by decide), ⟨_, s1.frm f2 (by omega)⟩, (Fr2.tx f1).trans (Fr2.tx f2)⟩
        rw [e1, e2, cI_some, if_pos rfl, chk_b0]
      · obtain ⟨r, A', I', e1, t1, o1, k1⟩ := a3 h m A I u v hb hM trivial
        exact ⟨r, A', I', mpre h m A I u v hb hM (o1.elim Or.inl (fun z => Or.inr z.1)) e1, t1, o1, k1⟩
    · by_cases st2 : tT b L q1 = 2
      · refine Or.inr ⟨q1, pitF g p y (nI l) (nI r), n, a0, a1, st2, gd_pit G hp y hl1 hl2 hr1 hr2, fun x s h hx hS h1 h2 hD => ?_, fun h m A I u v hb hM hP => ?_⟩
        · obtain ⟨h1', R, Wl, N, U, x1, f1, s1, s2, s3, e1⟩ := pre x s h hx hS h1 h2 hD
          obtain ⟨h0, h2', e2, x2, r2, f2, f3⟩ := a2 x (s + 1) h1' Wl x1 s1.2.1 (by omega)
          obtain ⟨h3, e3, x3, f4⟩ := t_stopYes x2 hL a1 st2
          have t1 := (sc_uW (s1.frm f2 (by omega)) f3 r2).frm f4 (by omega)
          refine ⟨h3, ?_, x3, fun _ => ⟨_, _, _, _, t1, we_pit s2 hp y _ _, re_cong s3 hn (fun k z1 z2 => pit_ne _ _ _ _ _ (by omega)), fun j hj i hi => absurd hi (Nat.not_lt_zero i), fun j hj i hi => absurd hi (Nat.not_lt_zero i)⟩, ⟨_, t1⟩, (((Fr2.tx f1).trans (Fr2.tx f2)).trans (Fr2.sc f3 (by omega) (by omega))).trans (Fr2.tx f4)⟩
          rw [e1, e2, cI_some, if_neg z10, tx_c x2, e3, cI_some, if_neg z10, chk_b1]
        · obtain ⟨A', I', e1, t1, o1, k1⟩ := a3 h m A I u v hb hM trivial
          refine ⟨A', I', mpre h m A I u v hb hM (Or.inr rfl) e1, t1, fun k hk => ?_, k1⟩
          rw [o1]
          unfold pitF upd
          simp only [hP k hk]
      · refine Or.inl ⟨q1, a1, ⟨g, n, fun x s h hx hS h1 h2 hD => ?_⟩, fun h m A I u v hb hM hP => ?_⟩
        · obtain ⟨h1', R, Wl, N, U, x1, f1, s1, s2, s3, e1⟩ := pre x s h hx hS h1 h2 hD
          obtain ⟨h0, h2', e2, x2, r2, f2, f3⟩ := a2 x (s + 1) h1' Wl x1 s1.2.1 (by omega)
          have t1 := sc_uW (s1.frm f2 (by omega)) f3 r2
          refine ⟨h2', ?_, x2, fun z => absurd z (by decide), ⟨_, t1⟩, ((Fr2.tx f1).trans (Fr2.tx f2)).trans (Fr2.sc f3 (by omega) (by omega))⟩
          rw [e1, e2, cI_some, if_neg z10, tx_c x2, t_stopNo x2 st2, cI_some, if_pos rfl, chk_b0]
        · obtain ⟨A', I', e1, t1, o1, k1⟩ := a3 h m A I u v hb hM trivial
          exact ⟨1, A', I', mpre h m A I u v hb hM (Or.inr rfl) e1, t1, Or.inr ⟨rfl, st2⟩, k1⟩
end
