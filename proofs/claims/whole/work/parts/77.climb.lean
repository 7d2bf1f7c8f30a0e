/-! Text, both: a climber told -/
section
variable {b : Nat → Int32} {L : Nat}
theorem p_wishes (hL : L ≤ 150) {n : Nat} (hn : n < 5) (kd wt st : Int32) : ∀ (k q i : Nat) (w : Int32) (x7 : Option Value), q ≤ L → L - q ≤ k → i + k = 150 →
    (∃ q1, q1 ≤ L ∧ (∀ x r, CFl b L q q1 x (pt_Text_tellClimber_56 x r kd wt st w (nI i) x7)) ∧ MFl b L q q1 (fun m => pt_M_takesClimber_52 m w) (fun A => A 11 0 = nI n ∧ A 12 0 = kd ∧ A 12 1 = wt ∧ A 12 2 = st)) ∨
    (∃ q1, ∃ w' : Int32, q ≤ q1 ∧ q1 ≤ L ∧
      (∀ (x r : Nat) (h : ab_H) (R : Nat → Nat → Int32), CT h x b L q → RopeAt h r n R → r + 8 ≤ x → ∃ h0 h', pt_Text_tellClimber_56 x r kd wt st w (nI i) x7 h = some (some (.int 1), h') ∧ CT h' x b L q1 ∧ RopeAt h' r (n + 1) (fun j => upd (R j) n (adV n kd wt st w' j)) ∧ Frm h h0 x 2 ∧ Frm h0 h' r 8) ∧
      MOk b L q q1 (fun m => pt_M_takesClimber_52 m w) (fun A => A 11 0 = nI n ∧ A 12 0 = kd ∧ A 12 1 = wt ∧ A 12 2 = st) (fun g => lcF g n kd wt st w')) := by
  intro k
  induction k with
  | zero =>
    intro q i w x7 hq hk hi
    have hT : tT b L q = 4 := by
      have := tk_le b hq
      exact if_pos (by omega)
    refine Or.inr ⟨q, w, Nat.le_refl _, hq, fun x r h R hx hr hd => ?_, fun h m A I u v hb hM hP => ?_⟩
    · obtain ⟨h', e1, r1, f1⟩ := s_add hr hn kd wt st w
      refine ⟨h, h', ?_, hx.frm f1 (by omega), r1, Frm.refl _ _ _, f1⟩
      rw [q_Text_tellClimber_56, if_pos (show (150 : Int32) ≤ nI i from nI_le (a := 150) (by omega) (by omega)), rp_c hr, e1, cV_some, chk_b1]
    · obtain ⟨p0, p1, p2, p3⟩ := hP
      have hm : ¬ mtV b L q = 2 := fun z => by
        have := (mt_2.mp z).1
        rw [hT] at this
        exact absurd this (by decide)
      have e6 := m_layClimber (h := mH h m A I u v) (r := m + 12) mg_12 (by omega) (by omega) hn p0 kd wt st w
      rw [ma_s11] at e6
      refine ⟨ropU A 11 (lcF (A 11) n kd wt st w), I, ?_, hM, rfl, fun j h1 h2 => ropU_ne _ _ h1⟩
      show pt_M_takesClimber_52 m w (mH h m A I u v) = _
      rw [q_M_takesClimber_52, mi_19, hM.2.2.1, if_neg hm, mr_21, mr_22, ml_12_0, mr_22, ml_12_1, mr_22, ml_12_2, p1, p2, p3, e6, cV_some, chk_b1]
  | succ k ih =>
    intro q i w x7 hq hk hi
    have hle := tk_le b hq
    by_cases h1 : tT b L q = 1
    · by_cases c0 : pN b L q (nI 0) (nI 7)
      · obtain ⟨p, -, hp7, ep⟩ := pN_is (by omega) (by omega) c0
        have l1 := pN_lt hq c0
        have pm1 : ¬ nI p = -1 := nI_ne_m1 (by omega)
        -- one wish more, on both sides
        have cls : ∀ (x r : Nat) (h : ab_H), CT h x b L q → ∃ h1, pt_Text_tellClimber_56 x r kd wt st w (nI i) x7 h = pt_Text_tellClimber_56 x r kd wt st (w ||| ((1 : Int32) <<< (nI p &&& 31))) (nI (i + 1)) (some (.int (nI p))) h1 ∧ CT h1 x b L (tE b L q) ∧ Frm h h1 x 2 := fun x r h hx => by
          obtain ⟨h1', e1, x1, f1⟩ := t_passYes (0 : Int32) (7 : Int32) hx hL hq c0
          refine ⟨h1', ?_, x1, f1⟩
          rw [q_Text_tellClimber_56, if_neg (show ¬ (150 : Int32) ≤ nI i from nI_ge (b := 150) (by omega) (by decide)), tx_t hx, if_pos h1, tx_c hx, e1, cI_some, ep, if_neg pm1, nI_1]
        have mdl : ∀ (h : ab_H) (m : Nat) (A : Nat → Nat → Int32) (I : Nat → Int32) (u v : Int64), A 10 = b → MTk I b L q → ∃ I', pt_M_takesClimber_52 m w (mH h m A I u v) = pt_M_takesClimber_52 m (w ||| ((1 : Int32) <<< (nI p &&& 31))) (mH h m (ropU A 12 (upd (A 12) 3 (nI p))) I' u v) ∧ MTk I' b L (tE b L q) := fun h m A I u v hb hM => by
          obtain ⟨I1, e1, t1⟩ := m_takesYes (h := h) (m := m) (u := u) (v := v) hb hM hL hq 3 (by omega) 3 rfl (0 : Int32) (7 : Int32) c0
          rw [ep] at e1
          refine ⟨I1, ?_, t1⟩
          rw [q_M_takesClimber_52, mi_19, hM.2.2.1, if_pos (mt_2.mpr ⟨h1, c0.2.1⟩), mc, e1, cI_some, if_neg z10, mr_22, ml_12_3, ropU_at, up_at]
        have pp : ∀ A : Nat → Nat → Int32, (A 11 0 = nI n ∧ A 12 0 = kd ∧ A 12 1 = wt ∧ A 12 2 = st) → ((ropU A 12 (upd (A 12) 3 (nI p))) 11 0 = nI n ∧ (ropU A 12 (upd (A 12) 3 (nI p))) 12 0 = kd ∧ (ropU A 12 (upd (A 12) 3 (nI p))) 12 1 = wt ∧ (ropU A 12 (upd (A 12) 3 (nI p))) 12 2 = st) := fun A h => h
        rcases ih (tE b L q) (i + 1) (w ||| ((1 : Int32) <<< (nI p &&& 31))) (some (.int (nI p))) l1.2 (by omega) (by omega) with ⟨q1, a1, a2, a3⟩ | ⟨q1, w', a0, a1, a2, a3⟩
        · refine Or.inl ⟨q1, a1, fun x r h hx => ?_, fun h m A I u v hb hM hP => ?_⟩
          · obtain ⟨h1', e1, x1, f1⟩ := cls x r h hx
            obtain ⟨h2, e2, x2, f2⟩ := a2 x r h1' x1
            exact ⟨h2, e1.trans e2, x2, f1.trans f2⟩
          · obtain ⟨I1, e1, t1⟩ := mdl h m A I u v hb hM
            obtain ⟨rr, A2, I2, e2, t2, o2, k2⟩ := a3 h m (ropU A 12 (upd (A 12) 3 (nI p))) I1 u v hb t1 (pp A hP)
            exact ⟨rr, A2, I2, e1.trans e2, t2, o2, fun j j1 j2 => (k2 j j1 j2).trans (ropU_ne _ _ j2)⟩
        · refine Or.inr ⟨q1, w', by omega, a1, fun x r h R hx hr hd => ?_, fun h m A I u v hb hM hP => ?_⟩
          · obtain ⟨h1', e1, x1, f1⟩ := cls x r h hx
            obtain ⟨h0, h2, e2, x2, r2, f2, f3⟩ := a2 x r h1' R x1 (hr.frm f1 (by omega)) hd
            exact ⟨h0, h2, e1.trans e2, x2, r2, f1.trans f2, f3⟩
          · obtain ⟨I1, e1, t1⟩ := mdl h m A I u v hb hM
            obtain ⟨A2, I2, e2, t2, o2, k2⟩ := a3 h m (ropU A 12 (upd (A 12) 3 (nI p))) I1 u v hb t1 (pp A hP)
            exact ⟨A2, I2, e1.trans e2, t2, o2, fun j j1 j2 => (k2 j j1 j2).trans (ropU_ne _ _ j2)⟩
      · refine Or.inl ⟨q, hq, fun x r h hx => ?_, fun h m A I u v hb hM hP => ?_⟩
        · have e1 := t_passNo (0 : Int32) (7 : Int32) hx hL hq c0
          refine ⟨h, ?_, hx, Frm.refl _ _ _⟩
          rw [q_Text_tellClimber_56, if_neg (show ¬ (150 : Int32) ≤ nI i from nI_ge (b := 150) (by omega) (by decide)), tx_t hx, if_pos h1, tx_c hx, e1, cI_some, if_pos rfl, chk_b0]
        · by_cases hm : mtV b L q = 2
          · refine ⟨0, A, I, ?_, hM, Or.inl rfl, fun _ _ _ => rfl⟩
            show pt_M_takesClimber_52 m w (mH h m A I u v) = _
            rw [q_M_takesClimber_52, mi_19, hM.2.2.1, if_pos hm, mc, m_takesNo hM 3 0 7 c0, cI_some, if_pos rfl, chk_b0]
          · obtain ⟨p0, p1, p2, p3⟩ := hP
            have e6 := m_layClimber (h := mH h m A I u v) (r := m + 12) mg_12 (by omega) (by omega) hn p0 kd wt st w
            rw [ma_s11] at e6
            refine ⟨1, ropU A 11 (lcF (A 11) n kd wt st w), I, ?_, hM, Or.inr ⟨rfl, by rw [h1]; decide⟩, fun j h1 h2 => ropU_ne _ _ h1⟩
            show pt_M_takesClimber_52 m w (mH h m A I u v) = _
            rw [q_M_takesClimber_52, mi_19, hM.2.2.1, if_neg hm, mr_21, mr_22, ml_12_0, mr_22, ml_12_1, mr_22, ml_12_2, p1, p2, p3, e6, cV_some, chk_b1]
    · refine Or.inr ⟨q, w, Nat.le_refl _, hq, fun x r h R hx hr hd => ?_, fun h m A I u v hb hM hP => ?_⟩
      · obtain ⟨h', e1, r1, f1⟩ := s_add hr hn kd wt st w
        refine ⟨h, h', ?_, hx.frm f1 (by omega), r1, Frm.refl _ _ _, f1⟩
        rw [q_Text_tellClimber_56, if_neg (show ¬ (150 : Int32) ≤ nI i from nI_ge (b := 150) (by omega) (by decide)), tx_t hx, if_neg h1, rp_c hr, e1, cV_some, chk_b1]
      · obtain ⟨p0, p1, p2, p3⟩ := hP
        have hm : ¬ mtV b L q = 2 := fun z => h1 (mt_2.mp z).1
        have e6 := m_layClimber (h := mH h m A I u v) (r := m + 12) mg_12 (by omega) (by omega) hn p0 kd wt st w
        rw [ma_s11] at e6
        refine ⟨ropU A 11 (lcF (A 11) n kd wt st w), I, ?_, hM, rfl, fun j h1 h2 => ropU_ne _ _ h1⟩
        show pt_M_takesClimber_52 m w (mH h m A I u v) = _
        rw [q_M_takesClimber_52, mi_19, hM.2.2.1, if_neg hm, mr_21, mr_22, ml_12_0, mr_22, ml_12_1, mr_22, ml_12_2, p1, p2, p3, e6, cV_some, chk_b1]
theorem p_climber (hL : L ≤ 150) {q0 n : Nat} (hq0 : q0 ≤ L) (hn : n < 5) :
    (∃ q1, q1 ≤ L ∧ (∀ x r, CFl b L (tE b L q0) q1 x (fn_Text_tellClimber x r)) ∧ MFl b L q0 q1 fn_M_takesClimber (fun A => A 11 0 = nI n)) ∨
    (∃ q1, ∃ kd wt st w : Int32, q0 ≤ q1 ∧ q1 ≤ L ∧
      (∀ (x r : Nat) (h : ab_H) (R : Nat → Nat → Int32), CT h x b L (tE b L q0) → RopeAt h r n R → r + 8 ≤ x → ∃ h0 h', fn_Text_tellClimber x r h = some (some (.int 1), h') ∧ CT h' x b L q1 ∧ RopeAt h' r (n + 1) (fun j => upd (R j) n (adV n kd wt st w j)) ∧ Frm h h0 x 2 ∧ Frm h0 h' r 8) ∧
      MOk b L q0 q1 fn_M_takesClimber (fun A => A 11 0 = nI n) (fun g => lcF g n kd wt st w)) := by
  have le0 := tk_le b hq0
  have hn5 : ¬ nI n = (5 : Int32) := fun z => by
    have := (nI_eq (b := 5) (by omega) (by decide)).mp z
    omega
  have beh := fun (h : ab_H) (m : Nat) (A : Nat → Nat → Int32) (I : Nat → Int32) (u v : Int64) (hb : A 10 = b) (hM : MTk I b L q0) => m_behind (h := h) (m := m) (u := u) (v := v) hb hM hL hq0
  by_cases c0 : pN b L (tE b L q0) (nI 0) (nI 5)
  · obtain ⟨p, -, hp7, ep⟩ := pN_is (by omega) (by omega) c0
    have l1 := pN_lt le0.2.2 c0
    have pm1 : ¬ nI p = -1 := nI_ne_m1 (by omega)
    by_cases c1 : pN b L (tE b L (tE b L q0)) (nI 1) (nI 30)
    · obtain ⟨y, -, hy9, ey⟩ := pN_is (by omega) (by omega) c1
      have l2 := pN_lt l1.2 c1
      have ym1 : ¬ nI y = -1 := nI_ne_m1 (by omega)
      by_cases c2 : pN b L (tE b L (tE b L (tE b L q0))) (nI 0) (nI 9)
      · obtain ⟨l, hl1, hl8, el⟩ := pN_is (by omega) (by omega) c2
        have l3 := pN_lt l2.2 c2
        have lm1 : ¬ nI l = -1 := nI_ne_m1 (by omega)
        have cls : ∀ (x r : Nat) (h : ab_H), CT h x b L (tE b L q0) → ∃ h1, fn_Text_tellClimber x r h = pt_Text_tellClimber_56 x r (nI p) (nI y) (nI l) 0 (nI 0) none h1 ∧ CT h1 x b L (tE b L (tE b L (tE b L (tE b L q0)))) ∧ Frm h h1 x 2 := fun x r h hx => by
          obtain ⟨h1, e1, x1, f1⟩ := t_passYes (0 : Int32) (5 : Int32) hx hL le0.2.2 c0
          obtain ⟨h2, e2, x2, f2⟩ := t_passYes (1 : Int32) (30 : Int32) x1 hL l1.2 c1
          obtain ⟨h3, e3, x3, f3⟩ := t_passYes (0 : Int32) (9 : Int32) x2 hL l2.2 c2
          refine ⟨h3, ?_, x3, (f1.trans f2).trans f3⟩
          rw [q_Text_tellClimber, tx_c hx, e1, cI_some, ep, if_neg pm1, tx_c x1, e2, cI_some, ey, q_Text_tellClimber_23, if_neg ym1, tx_c x2, e3, cI_some, el, q_Text_tellClimber_40, if_neg lm1]
          rfl
        have mdl : ∀ (h : ab_H) (m : Nat) (A : Nat → Nat → Int32) (I : Nat → Int32) (u v : Int64), A 10 = b → MTk I b L q0 → A 11 0 = nI n → ∃ I', fn_M_takesClimber m (mH h m A I u v) = pt_M_takesClimber_52 m 0 (mH h m (ropU A 12 (upd (upd (upd (A 12) 0 (nI p)) 1 (nI y)) 2 (nI l))) I' u v) ∧ MTk I' b L (tE b L (tE b L (tE b L (tE b L q0)))) := fun h m A I u v hb hM hP => by
          obtain ⟨I1, e1, t1⟩ := beh h m A I u v hb hM
          obtain ⟨I2, e2, t2⟩ := m_takesYes (h := h) (m := m) (u := u) (v := v) hb t1 hL le0.2.2 0 (by omega) 0 rfl (0 : Int32) (5 : Int32) c0
          obtain ⟨I3, e3, t3⟩ := m_takesYes (h := h) (m := m) (u := u) (v := v) (A := ropU A 12 (upd (A 12) 0 (nvV b L (tE b L q0)))) hb t2 hL l1.2 1 (by omega) 1 rfl (1 : Int32) (30 : Int32) c1
          obtain ⟨I4, e4, t4⟩ := m_takesYes (h := h) (m := m) (u := u) (v := v) (A := ropU (ropU A 12 (upd (A 12) 0 (nvV b L (tE b L q0)))) 12 (upd (ropU A 12 (upd (A 12) 0 (nvV b L (tE b L q0))) 12) 1 (nvV b L (tE b L (tE b L q0))))) hb t3 hL l2.2 2 (by omega) 2 rfl (0 : Int32) (9 : Int32) c2
          rw [ep] at e2 e3 e4
          rw [ey] at e3 e4
          rw [el] at e4
          simp only [ropU_rr, ropU_at] at e3 e4
          refine ⟨I4, ?_, t4⟩
          rw [q_M_takesClimber, mr_21, ml_11_0, hP, if_neg hn5, mc, e1, cV_some, mc, e2, cI_some, if_neg z10, mc, e3, cI_some, if_neg z10, mc, e4, cI_some, if_neg z10]
        rcases p_wishes (b := b) hL hn (nI p) (nI y) (nI l) 150 (tE b L (tE b L (tE b L (tE b L q0)))) 0 0 none l3.2 (by omega) (by omega) with ⟨q1, a1, a2, a3⟩ | ⟨q1, w', a0, a1, a2, a3⟩
        · refine Or.inl ⟨q1, a1, fun x r h hx => ?_, fun h m A I u v hb hM hP => ?_⟩
          · obtain ⟨h1', e1, x1, f1⟩ := cls x r h hx
            obtain ⟨h2, e2, x2, f2⟩ := a2 x r h1' x1
            exact ⟨h2, e1.trans e2, x2, f1.trans f2⟩
          · obtain ⟨I1, e1, t1⟩ := mdl h m A I u v hb hM hP
            obtain ⟨rr, A2, I2, e2, t2, o2, k2⟩ := a3 h m (ropU A 12 (upd (upd (upd (A 12) 0 (nI p)) 1 (nI y)) 2 (nI l))) I1 u v hb t1 ⟨hP, rfl, rfl, rfl⟩
            exact ⟨rr, A2, I2, e1.trans e2, t2, o2, fun j j1 j2 => (k2 j j1 j2).trans (ropU_ne _ _ j2)⟩
        · refine Or.inr ⟨q1, nI p, nI y, nI l, w', by omega, a1, fun x r h R hx hr hd => ?_, fun h m A I u v hb hM hP => ?_⟩
          · obtain ⟨h1', e1, x1, f1⟩ := cls x r h hx
            obtain ⟨h0, h2, e2, x2, r2, f2, f3⟩ := a2 x r h1' R x1 (hr.frm f1 (by omega)) hd
            exact ⟨h0, h2, e1.trans e2, x2, r2, f1.trans f2, f3⟩
          · obtain ⟨I1, e1, t1⟩ := mdl h m A I u v hb hM hP
            obtain ⟨A2, I2, e2, t2, o2, k2⟩ := a3 h m (ropU A 12 (upd (upd (upd (A 12) 0 (nI p)) 1 (nI y)) 2 (nI l))) I1 u v hb t1 ⟨hP, rfl, rfl, rfl⟩
            exact ⟨A2, I2, e1.trans e2, t2, o2, fun j j1 j2 => (k2 j j1 j2).trans (ropU_ne _ _ j2)⟩
      · refine Or.inl ⟨_, l2.2, fun x r h hx => ?_, fun h m A I u v hb hM hP => ?_⟩
        · obtain ⟨h1, e1, x1, f1⟩ := t_passYes (0 : Int32) (5 : Int32) hx hL le0.2.2 c0
          obtain ⟨h2, e2, x2, f2⟩ := t_passYes (1 : Int32) (30 : Int32) x1 hL l1.2 c1
          have e3 := t_passNo (0 : Int32) (9 : Int32) x2 hL l2.2 c2
          refine ⟨h2, ?_, x2, f1.trans f2⟩
          rw [q_Text_tellClimber, tx_c hx, e1, cI_some, ep, if_neg pm1, tx_c x1, e2, cI_some, ey, q_Text_tellClimber_23, if_neg ym1, tx_c x2, e3, cI_some, q_Text_tellClimber_40, if_pos rfl, chk_b0]
        · obtain ⟨I1, e1, t1⟩ := beh h m A I u v hb hM
          obtain ⟨I2, e2, t2⟩ := m_takesYes (h := h) (m := m) (u := u) (v := v) hb t1 hL le0.2.2 0 (by omega) 0 rfl (0 : Int32) (5 : Int32) c0
          obtain ⟨I3, e3, t3⟩ := m_takesYes (h := h) (m := m) (u := u) (v := v) (A := ropU A 12 (upd (A 12) 0 (nvV b L (tE b L q0)))) hb t2 hL l1.2 1 (by omega) 1 rfl (1 : Int32) (30 : Int32) c1
          simp only [ropU_rr, ropU_at] at e3
          refine ⟨0, ropU A 12 (upd (upd (A 12) 0 (nvV b L (tE b L q0))) 1 (nvV b L (tE b L (tE b L q0)))), I3, ?_, t3, Or.inl rfl, fun j h1 h2 => ropU_ne _ _ h2⟩
          rw [q_M_takesClimber, mr_21, ml_11_0, hP, if_neg hn5, mc, e1, cV_some, mc, e2, cI_some, if_neg z10, mc, e3, cI_some, if_neg z10, mc, m_takesNo t3 2 0 9 c2, cI_some, if_pos rfl, chk_b0]
    · refine Or.inl ⟨_, l1.2, fun x r h hx => ?_, fun h m A I u v hb hM hP => ?_⟩
      · obtain ⟨h1, e1, x1, f1⟩ := t_passYes (0 : Int32) (5 : Int32) hx hL le0.2.2 c0
        have e2 := t_passNo (1 : Int32) (30 : Int32) x1 hL l1.2 c1
        refine ⟨h1, ?_, x1, f1⟩
        rw [q_Text_tellClimber, tx_c hx, e1, cI_some, ep, if_neg pm1, tx_c x1, e2, cI_some, q_Text_tellClimber_23, if_pos rfl, q_Text_tellClimber_40, if_pos rfl, chk_b0]
      · obtain ⟨I1, e1, t1⟩ := beh h m A I u v hb hM
        obtain ⟨I2, e2, t2⟩ := m_takesYes (h := h) (m := m) (u := u) (v := v) hb t1 hL le0.2.2 0 (by omega) 0 rfl (0 : Int32) (5 : Int32) c0
        refine ⟨0, ropU A 12 (upd (A 12) 0 (nvV b L (tE b L q0))), I2, ?_, t2, Or.inl rfl, fun j h1 h2 => ropU_ne _ _ h2⟩
        rw [q_M_takesClimber, mr_21, ml_11_0, hP, if_neg hn5, mc, e1, cV_some, mc, e2, cI_some, if_neg z10, mc, m_takesNo t2 1 1 30 c1, cI_some, if_pos rfl, chk_b0]
  · refine Or.inl ⟨_, le0.2.2, fun x r h hx => ?_, fun h m A I u v hb hM hP => ?_⟩
    · have e1 := t_passNo (0 : Int32) (5 : Int32) hx hL le0.2.2 c0
      refine ⟨h, ?_, hx, Frm.refl _ _ _⟩
      rw [q_Text_tellClimber, tx_c hx, e1, cI_some, if_pos rfl, q_Text_tellClimber_23, if_pos rfl, q_Text_tellClimber_40, if_pos rfl, chk_b0]
    · obtain ⟨I1, e1, t1⟩ := beh h m A I u v hb hM
      refine ⟨0, A, I1, ?_, t1, Or.inl rfl, fun _ _ _ => rfl⟩
      rw [q_M_takesClimber, mr_21, ml_11_0, hP, if_neg hn5, mc, e1, cV_some, mc, m_takesNo t1 0 0 5 c0, cI_some, if_pos rfl, chk_b0]
end
