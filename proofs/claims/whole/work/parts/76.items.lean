/-! Text, both: pitch, ice, climber -/
def CFl (b : Nat → Int32) (L q q1 x : Nat) (F : ab_H → Option ab_R) : Prop := ∀ h, CT h x b L q → ∃ h', F h = some (some (.int 0), h') ∧ CT h' x b L q1 ∧ Frm h h' x 2
def MFl (b : Nat → Int32) (L q0 q1 : Nat) (M : Nat → ab_H → Option ab_R) (P : (Nat → Nat → Int32) → Prop) : Prop := ∀ (h : ab_H) (m : Nat) (A : Nat → Nat → Int32) (I : Nat → Int32) (u v : Int64), A 10 = b → MTk I b L q0 → P A → ∃ r A' I', M m (mH h m A I u v) = some (some (.int r), mH h m A' I' u v) ∧ MTk I' b L q1 ∧ (r = 0 ∨ (r = 1 ∧ ¬ tT b L q1 = 2)) ∧ (∀ j, j ≠ 11 → j ≠ 12 → A' j = A j)
def MOk (b : Nat → Int32) (L q0 q1 : Nat) (M : Nat → ab_H → Option ab_R) (P : (Nat → Nat → Int32) → Prop) (G : (Nat → Int32) → Nat → Int32) : Prop := ∀ (h : ab_H) (m : Nat) (A : Nat → Nat → Int32) (I : Nat → Int32) (u v : Int64), A 10 = b → MTk I b L q0 → P A → ∃ A' I', M m (mH h m A I u v) = some (some (.int 1), mH h m A' I' u v) ∧ MTk I' b L q1 ∧ A' 11 = G (A 11) ∧ (∀ j, j ≠ 11 → j ≠ 12 → A' j = A j)
section
variable {b : Nat → Int32} {L q0 : Nat}
theorem p_pitch (hL : L ≤ 150) (hq0 : q0 ≤ L) :
    (∃ q1, q1 ≤ L ∧ (∀ x w, CFl b L (tE b L q0) q1 x (fn_Text_tellPitch x w)) ∧ MFl b L q0 q1 fn_M_takesPitch (fun _ => True)) ∨
    (∃ q1 p l r, ∃ y : Int32, q0 ≤ q1 ∧ q1 ≤ L ∧ p < 8 ∧ p < l ∧ l ≤ 8 ∧ p < r ∧ r ≤ 8 ∧
      (∀ (x w : Nat) (h : ab_H) (W : Nat → Nat → Int32), CT h x b L (tE b L q0) → WallAt h w W → w + 5 ≤ x → ∃ h0 h', fn_Text_tellPitch x w h = some (some (.int 1), h') ∧ CT h' x b L q1 ∧ WallAt h' w (telW W p y (nI l) (nI r)) ∧ Frm h h0 x 2 ∧ Frm h0 h' w 5) ∧
      MOk b L q0 q1 fn_M_takesPitch (fun _ => True) (fun g => upd (upd (upd g (6 + 4 * p + 1) y) (6 + 4 * p + 2) (nI l)) (6 + 4 * p + 3) (nI r))) := by
  have le0 := tk_le b hq0
  have beh := fun (h : ab_H) (m : Nat) (A : Nat → Nat → Int32) (I : Nat → Int32) (u v : Int64) (hb : A 10 = b) (hM : MTk I b L q0) => m_behind (h := h) (m := m) (u := u) (v := v) hb hM hL hq0
  by_cases c0 : pN b L (tE b L q0) (nI 0) (nI 7)
  · obtain ⟨p, -, hp7, ep⟩ := pN_is (by omega) (by omega) c0
    have l1 := pN_lt le0.2.2 c0
    have pm1 : ¬ nI p = -1 := nI_ne_m1 (by omega)
    by_cases c1 : pN b L (tE b L (tE b L q0)) (nI 0) (nI 9)
    · obtain ⟨y, -, hy9, ey⟩ := pN_is (by omega) (by omega) c1
      have l2 := pN_lt l1.2 c1
      have ym1 : ¬ nI y = -1 := nI_ne_m1 (by omega)
      by_cases c2 : pN b L (tE b L (tE b L (tE b L q0))) (nI (p + 1)) (nI 8)
      · obtain ⟨l, hl1, hl8, el⟩ := pN_is (by omega) (by omega) c2
        have l3 := pN_lt l2.2 c2
        have lm1 : ¬ nI l = -1 := nI_ne_m1 (by omega)
        by_cases c3 : pN b L (tE b L (tE b L (tE b L (tE b L q0)))) (nI (p + 1)) (nI 8)
        · obtain ⟨r, hr1, hr8, er⟩ := pN_is (by omega) (by omega) c3
          have l4 := pN_lt l3.2 c3
          have rm1 : ¬ nI r = -1 := nI_ne_m1 (by omega)
          refine Or.inr ⟨_, p, l, r, nI y, by omega, l4.2, by omega, by omega, hl8, by omega, hr8, fun x w h W hx hw hd => ?_, fun h m A I u v hb hM _ => ?_⟩
          · obtain ⟨h1, e1, x1, f1⟩ := t_passYes (0 : Int32) (7 : Int32) hx hL le0.2.2 c0
            obtain ⟨h2, e2, x2, f2⟩ := t_passYes (0 : Int32) (9 : Int32) x1 hL l1.2 c1
            obtain ⟨h3, e3, x3, f3⟩ := t_passYes (nI (p + 1)) (8 : Int32) x2 hL l2.2 c2
            obtain ⟨h4, e4, x4, f4⟩ := t_passYes (nI (p + 1)) (8 : Int32) x3 hL l3.2 c3
            have f := ((f1.trans f2).trans f3).trans f4
            obtain ⟨h5, e5, w5, f5⟩ := s_tell (hw.frm f (by omega)) (show p < 8 by omega) (nI y) (nI l) (nI r)
            refine ⟨h4, h5, ?_, TxAt.frm x4 f5 (by omega), w5, f, f5⟩
            rw [q_Text_tellPitch, tx_c hx, e1, cI_some, ep, if_neg pm1, tx_c x1, e2, cI_some, ey, q_Text_tellPitch_24, if_neg ym1, tx_c x2, nI_1, e3, cI_some, el, q_Text_tellPitch_43, if_neg lm1, tx_c x3, nI_1, e4, cI_some, er, q_Text_tellPitch_64, if_neg rm1, wl_c (hw.frm f (by omega)), e5, cV_some, chk_b1]
          · obtain ⟨I1, e1, t1⟩ := beh h m A I u v hb hM
            obtain ⟨I2, e2, t2⟩ := m_takesYes (h := h) (m := m) (u := u) (v := v) hb t1 hL le0.2.2 0 (by omega) 0 rfl (0 : Int32) (7 : Int32) c0
            obtain ⟨I3, e3, t3⟩ := m_takesYes (h := h) (m := m) (u := u) (v := v) (A := ropU A 12 (upd (A 12) 0 (nvV b L (tE b L q0)))) hb t2 hL l1.2 1 (by omega) 1 rfl (0 : Int32) (9 : Int32) c1
            obtain ⟨I4, e4, t4⟩ := m_takesYes (h := h) (m := m) (u := u) (v := v) (A := ropU (ropU A 12 (upd (A 12) 0 (nvV b L (tE b L q0)))) 12 (upd (ropU A 12 (upd (A 12) 0 (nvV b L (tE b L q0))) 12) 1 (nvV b L (tE b L (tE b L q0))))) hb t3 hL l2.2 2 (by omega) 2 rfl (nI (p + 1)) (8 : Int32) c2
            obtain ⟨I5, e5, t5⟩ := m_takesYes (h := h) (m := m) (u := u) (v := v) (A := ropU (ropU (ropU A 12 (upd (A 12) 0 (nvV b L (tE b L q0)))) 12 (upd (ropU A 12 (upd (A 12) 0 (nvV b L (tE b L q0))) 12) 1 (nvV b L (tE b L (tE b L q0))))) 12 (upd (ropU (ropU A 12 (upd (A 12) 0 (nvV b L (tE b L q0)))) 12 (upd (ropU A 12 (upd (A 12) 0 (nvV b L (tE b L q0))) 12) 1 (nvV b L (tE b L (tE b L q0)))) 12) 2 (nvV b L (tE b L (tE b L (tE b L q0)))))) hb t4 hL l3.2 3 (by omega) 3 rfl (nI (p + 1)) (8 : Int32) c3
            rw [ep] at e2 e3 e4 e5
            rw [ey] at e3 e4 e5
            rw [el] at e4 e5
            rw [er] at e5
            simp only [ropU_rr, ropU_at] at e3 e4 e5
            generalize hv : upd (upd (upd (upd (A 12) 0 (nI p)) 1 (nI y)) 2 (nI l)) 3 (nI r) = vv at e5
            have v0 : vv 0 = nI p := by rw [← hv]; rfl
            have v1 : vv 1 = nI y := by rw [← hv]; rfl
            have v2 : vv 2 = nI l := by rw [← hv]; rfl
            have v3 : vv 3 = nI r := by rw [← hv]; rfl
            have e6 := m_layPitch (h := mH h m (ropU A 12 vv) I5 u v) (r := m + 12) (p := p) mg_12 (by omega) (by omega) (by omega) (nI y) (nI l) (nI r)
            rw [ma_s11] at e6
            refine ⟨ropU (ropU A 12 vv) 11 (upd (upd (upd (A 11) (6 + 4 * p + 1) (nI y)) (6 + 4 * p + 2) (nI l)) (6 + 4 * p + 3) (nI r)), I5, ?_, t5, rfl, fun j h1 h2 => by rw [ropU_ne _ _ h1, ropU_ne _ _ h2]⟩
            have u0 : ∀ k z, k ≠ 0 → upd (upd (A 12) 0 (nI p)) k z 0 = nI p := fun k z hk => by
              rw [up_ne _ _ (Ne.symm hk)]; rfl
            rw [q_M_takesPitch, mc, e1, cV_some, mc, e2, cI_some, if_neg z10, mc, e3, cI_some, if_neg z10, mr_22, ml_12_0, ropU_at, u0 1 _ (by decide), nI_1, mc, e4, cI_some, if_neg z10, mr_22, ml_12_0, ropU_at, show upd (upd (upd (A 12) 0 (nI p)) 1 (nI y)) 2 (nI l) 0 = nI p from rfl, nI_1, mc, e5, cI_some, if_neg z10, mr_21, mr_22, ml_12_0, mr_22, ml_12_1, mr_22, ml_12_2, mr_22, ml_12_3, ropU_at, v0, v1, v2, v3, e6, cV_some, chk_b1]
            rfl
        · refine Or.inl ⟨_, l3.2, fun x w h hx => ?_, fun h m A I u v hb hM _ => ?_⟩
          · obtain ⟨h1, e1, x1, f1⟩ := t_passYes (0 : Int32) (7 : Int32) hx hL le0.2.2 c0
            obtain ⟨h2, e2, x2, f2⟩ := t_passYes (0 : Int32) (9 : Int32) x1 hL l1.2 c1
            obtain ⟨h3, e3, x3, f3⟩ := t_passYes (nI (p + 1)) (8 : Int32) x2 hL l2.2 c2
            have e4 := t_passNo (nI (p + 1)) (8 : Int32) x3 hL l3.2 c3
            refine ⟨h3, ?_, x3, (f1.trans f2).trans f3⟩
            rw [q_Text_tellPitch, tx_c hx, e1, cI_some, ep, if_neg pm1, tx_c x1, e2, cI_some, ey, q_Text_tellPitch_24, if_neg ym1, tx_c x2, nI_1, e3, cI_some, el, q_Text_tellPitch_43, if_neg lm1, tx_c x3, nI_1, e4, cI_some, q_Text_tellPitch_64, if_pos rfl, chk_b0]
          · obtain ⟨I1, e1, t1⟩ := beh h m A I u v hb hM
            obtain ⟨I2, e2, t2⟩ := m_takesYes (h := h) (m := m) (u := u) (v := v) hb t1 hL le0.2.2 0 (by omega) 0 rfl (0 : Int32) (7 : Int32) c0
            obtain ⟨I3, e3, t3⟩ := m_takesYes (h := h) (m := m) (u := u) (v := v) (A := ropU A 12 (upd (A 12) 0 (nvV b L (tE b L q0)))) hb t2 hL l1.2 1 (by omega) 1 rfl (0 : Int32) (9 : Int32) c1
            obtain ⟨I4, e4, t4⟩ := m_takesYes (h := h) (m := m) (u := u) (v := v) (A := ropU (ropU A 12 (upd (A 12) 0 (nvV b L (tE b L q0)))) 12 (upd (ropU A 12 (upd (A 12) 0 (nvV b L (tE b L q0))) 12) 1 (nvV b L (tE b L (tE b L q0))))) hb t3 hL l2.2 2 (by omega) 2 rfl (nI (p + 1)) (8 : Int32) c2
            rw [ep] at e2 e3 e4
            rw [ey] at e3 e4
            rw [el] at e4
            simp only [ropU_rr, ropU_at] at e3 e4
            refine ⟨0, ropU A 12 (upd (upd (upd (A 12) 0 (nI p)) 1 (nI y)) 2 (nI l)), I4, ?_, t4, Or.inl rfl, fun j h1 h2 => ropU_ne _ _ h2⟩
            have u0 : ∀ k z, k ≠ 0 → upd (upd (A 12) 0 (nI p)) k z 0 = nI p := fun k z hk => by
              rw [up_ne _ _ (Ne.symm hk)]; rfl
            rw [q_M_takesPitch, mc, e1, cV_some, mc, e2, cI_some, if_neg z10, mc, e3, cI_some, if_neg z10, mr_22, ml_12_0, ropU_at, u0 1 _ (by decide), nI_1, mc, e4, cI_some, if_neg z10, mr_22, ml_12_0, ropU_at, show upd (upd (upd (A 12) 0 (nI p)) 1 (nI y)) 2 (nI l) 0 = nI p from rfl, nI_1, mc, m_takesNo t4 3 (nI (p + 1)) 8 c3, cI_some, if_pos rfl, chk_b0]
      · refine Or.inl ⟨_, l2.2, fun x w h hx => ?_, fun h m A I u v hb hM _ => ?_⟩
        · obtain ⟨h1, e1, x1, f1⟩ := t_passYes (0 : Int32) (7 : Int32) hx hL le0.2.2 c0
          obtain ⟨h2, e2, x2, f2⟩ := t_passYes (0 : Int32) (9 : Int32) x1 hL l1.2 c1
          have e3 := t_passNo (nI (p + 1)) (8 : Int32) x2 hL l2.2 c2
          refine ⟨h2, ?_, x2, f1.trans f2⟩
          rw [q_Text_tellPitch, tx_c hx, e1, cI_some, ep, if_neg pm1, tx_c x1, e2, cI_some, ey, q_Text_tellPitch_24, if_neg ym1, tx_c x2, nI_1, e3, cI_some, q_Text_tellPitch_43, if_pos rfl, q_Text_tellPitch_64, if_pos rfl, chk_b0]
        · obtain ⟨I1, e1, t1⟩ := beh h m A I u v hb hM
          obtain ⟨I2, e2, t2⟩ := m_takesYes (h := h) (m := m) (u := u) (v := v) hb t1 hL le0.2.2 0 (by omega) 0 rfl (0 : Int32) (7 : Int32) c0
          obtain ⟨I3, e3, t3⟩ := m_takesYes (h := h) (m := m) (u := u) (v := v) (A := ropU A 12 (upd (A 12) 0 (nvV b L (tE b L q0)))) hb t2 hL l1.2 1 (by omega) 1 rfl (0 : Int32) (9 : Int32) c1
          rw [ep] at e2 e3
          rw [ey] at e3
          simp only [ropU_rr, ropU_at] at e3
          refine ⟨0, ropU A 12 (upd (upd (A 12) 0 (nI p)) 1 (nI y)), I3, ?_, t3, Or.inl rfl, fun j h1 h2 => ropU_ne _ _ h2⟩
          rw [q_M_takesPitch, mc, e1, cV_some, mc, e2, cI_some, if_neg z10, mc, e3, cI_some, if_neg z10, mr_22, ml_12_0, ropU_at, show upd (upd (A 12) 0 (nI p)) 1 (nI y) 0 = nI p from rfl, nI_1, mc, m_takesNo t3 2 (nI (p + 1)) 8 c2, cI_some, if_pos rfl, chk_b0]
    · refine Or.inl ⟨_, l1.2, fun x w h hx => ?_, fun h m A I u v hb hM _ => ?_⟩
      · obtain ⟨h1, e1, x1, f1⟩ := t_passYes (0 : Int32) (7 : Int32) hx hL le0.2.2 c0
        have e2 := t_passNo (0 : Int32) (9 : Int32) x1 hL l1.2 c1
        refine ⟨h1, ?_, x1, f1⟩
        rw [q_Text_tellPitch, tx_c hx, e1, cI_some, ep, if_neg pm1, tx_c x1, e2, cI_some, q_Text_tellPitch_24, if_pos rfl, q_Text_tellPitch_43, if_pos rfl, q_Text_tellPitch_64, if_pos rfl, chk_b0]
      · obtain ⟨I1, e1, t1⟩ := beh h m A I u v hb hM
        obtain ⟨I2, e2, t2⟩ := m_takesYes (h := h) (m := m) (u := u) (v := v) hb t1 hL le0.2.2 0 (by omega) 0 rfl (0 : Int32) (7 : Int32) c0
        refine ⟨0, ropU A 12 (upd (A 12) 0 (nvV b L (tE b L q0))), I2, ?_, t2, Or.inl rfl, fun j h1 h2 => ropU_ne _ _ h2⟩
        rw [q_M_takesPitch, mc, e1, cV_some, mc, e2, cI_some, if_neg z10, mc, m_takesNo t2 1 0 9 c1, cI_some, if_pos rfl, chk_b0]
  · refine Or.inl ⟨_, le0.2.2, fun x w h hx => ?_, fun h m A I u v hb hM _ => ?_⟩
    · have e1 := t_passNo (0 : Int32) (7 : Int32) hx hL le0.2.2 c0
      refine ⟨h, ?_, hx, Frm.refl _ _ _⟩
      rw [q_Text_tellPitch, tx_c hx, e1, cI_some, if_pos rfl, q_Text_tellPitch_24, if_pos rfl, q_Text_tellPitch_43, if_pos rfl, q_Text_tellPitch_64, if_pos rfl, chk_b0]
    · obtain ⟨I1, e1, t1⟩ := beh h m A I u v hb hM
      refine ⟨0, A, I1, ?_, t1, Or.inl rfl, fun _ _ _ => rfl⟩
      rw [q_M_takesPitch, mc, e1, cV_some, mc, m_takesNo t1 0 0 7 c0, cI_some, if_pos rfl, chk_b0]
theorem p_ice (hL : L ≤ 150) (hq0 : q0 ≤ L) :
    (∃ q1, q1 ≤ L ∧ (∀ x w, CFl b L (tE b L q0) q1 x (fn_Text_tellIce x w)) ∧ MFl b L q0 q1 fn_M_takesIce (fun _ => True)) ∨
    (∃ q1 p, q0 ≤ q1 ∧ q1 ≤ L ∧ p < 8 ∧
      (∀ (x w : Nat) (h : ab_H) (W : Nat → Nat → Int32), CT h x b L (tE b L q0) → WallAt h w W → w + 5 ≤ x → ∃ h0 h', fn_Text_tellIce x w h = some (some (.int 1), h') ∧ CT h' x b L q1 ∧ WallAt h' w (ropU W 0 (upd (W 0) p 1)) ∧ Frm h h0 x 2 ∧ Frm h0 h' w 5) ∧
      MOk b L q0 q1 fn_M_takesIce (fun _ => True) (fun g => upd g (6 + 4 * p + 0) 1)) := by
  have le0 := tk_le b hq0
  have beh := fun (h : ab_H) (m : Nat) (A : Nat → Nat → Int32) (I : Nat → Int32) (u v : Int64) (hb : A 10 = b) (hM : MTk I b L q0) => m_behind (h := h) (m := m) (u := u) (v := v) hb hM hL hq0
  by_cases c0 : pN b L (tE b L q0) (nI 0) (nI 7)
  · obtain ⟨p, -, hp7, ep⟩ := pN_is (by omega) (by omega) c0
    have l1 := pN_lt le0.2.2 c0
    have pm1 : ¬ nI p = -1 := nI_ne_m1 (by omega)
    refine Or.inr ⟨_, p, by omega, l1.2, by omega, fun x w h W hx hw hd => ?_, fun h m A I u v hb hM _ => ?_⟩
    · obtain ⟨h1, e1, x1, f1⟩ := t_passYes (0 : Int32) (7 : Int32) hx hL le0.2.2 c0
      have hw1 := hw.frm f1 (by omega)
      have f2 := Frm.set h1 (w + 1) (.inl (0, 8, upd (W 0) p 1))
      refine ⟨h1, _, ?_, TxAt.frm x1 f2 (by omega), wl_s0 hw1 _, f1, f2.wide (by omega) (by omega)⟩
      rw [q_Text_tellIce, tx_c hx, e1, cI_some, ep, if_neg pm1, wl_r0 hw1, iast_at hw1.2.1 (by omega) (by decide), chk_b1]
    · obtain ⟨I1, e1, t1⟩ := beh h m A I u v hb hM
      obtain ⟨I2, e2, t2⟩ := m_takesYes (h := h) (m := m) (u := u) (v := v) hb t1 hL le0.2.2 0 (by omega) 0 rfl (0 : Int32) (7 : Int32) c0
      rw [ep] at e2
      refine ⟨ropU (ropU A 12 (upd (A 12) 0 (nI p))) 11 (upd (A 11) (6 + 4 * p + 0) 1), I2, ?_, t2, rfl, fun j h1 h2 => by rw [ropU_ne _ _ h1, ropU_ne _ _ h2]⟩
      rw [q_M_takesIce, mc, e1, cV_some, mc, e2, cI_some, if_neg z10, mr_21, mr_22, ml_12_0, ropU_at, up_at, ix_6, nI_a0, ma_11 (by omega), chk_b1]
      rfl
  · refine Or.inl ⟨_, le0.2.2, fun x w h hx => ?_, fun h m A I u v hb hM _ => ?_⟩
    · have e1 := t_passNo (0 : Int32) (7 : Int32) hx hL le0.2.2 c0
      refine ⟨h, ?_, hx, Frm.refl _ _ _⟩
      rw [q_Text_tellIce, tx_c hx, e1, cI_some, if_pos rfl, chk_b0]
    · obtain ⟨I1, e1, t1⟩ := beh h m A I u v hb hM
      refine ⟨0, A, I1, ?_, t1, Or.inl rfl, fun _ _ _ => rfl⟩
      rw [q_M_takesIce, mc, e1, cV_some, mc, m_takesNo t1 0 0 7 c0, cI_some, if_pos rfl, chk_b0]
end
