/-! calls, and the whole run -/
theorem lv_pos {z : Nat} (h : z < nM) : 1 ≤ lvT z := by
  have h1 : (List.range nM).all (fun z => Nat.ble 1 (lvT z)) = true := by decide +kernel
  exact Nat.le_of_ble_eq_true (List.all_eq_true.mp h1 z (List.mem_range.mpr h))
theorem lw_g_good : ∀ w ∈ lw_g, w ∈ lw_g ∧ ((w.onTables && w.keeps) = true ∨ ∃ ty, w = .arrayClass ty) := fun w hw => ⟨hw, good_of_word (List.mem_filter.mp hw).2⟩
theorem ab_call_iv {y k pl z n mxz : Nat} (h : ab_call y k pl z n mxz = true) : ab_link (nmT y).cls k pl z = true ∧ lvT z + 1 ≤ lvT y ∧ ab_okz z = true ∧ (parseMethodDescriptor (nmT z).desc).map (fun d => d.parameters.length) = some n ∧ mxz = mxT z := by
  simp only [ab_call, Bool.and_eq_true, decide_eq_true_eq] at h
  exact ⟨h.1.1.1.1, Nat.le_of_ble_eq_true h.1.1.1.2, h.1.1.2, h.1.2, Nat.eq_of_beq_eq_true h.2⟩
theorem ab_okz_iv {z : Nat} (h : ab_okz z = true) : z < nM ∧ GoodIn lw_g (ab_ws z) ∧ Cond.initialized (nmT z).cls ∈ lw_g ∧ ((nmT z).cls ≠ "java/lang/invoke/MethodHandle" ∧ (nmT z).cls ≠ "java/lang/invoke/VarHandle") ∧ mxT z ≤ 16 := by
  simp only [ab_okz, Bool.and_eq_true, decide_eq_true_eq] at h
  obtain ⟨⟨⟨⟨⟨⟨h1, h2⟩, h3⟩, h4⟩, h5⟩, h6⟩, -⟩ := h
  refine ⟨Nat.le_of_ble_eq_true h1, fun w hw => ?_, lw_g_of h3 rfl, ⟨h4, h5⟩, Nat.le_of_ble_eq_true h6⟩
  rcases List.mem_cons.mp hw with rfl | hw
  · exact ⟨lw_g_of h2 rfl, good_of_word rfl⟩
  · exact lw_g_good w hw
section
variable {q : ab_Q} {n0 y : Nat} {p : Program} {l : Launch} {e : Env} {R : Room} {s : State} {m : MethodId} {args : Array Value} {below : List Frame} {meth : Method} {c : Code} {Q : State → Prop} {pc : Nat} {L L' : ab_L} {st st' : List Value} {h h1 h2 : ab_H} {z t nx : Nat} {as : List Value} {v1 : Option Value}
/-- what a call instruction says -/
theorem ab_call_look {i : ab_I} (ho : ab_ok y pc i = true) (hd : ab_st1 i L st h = some (.inr (.inr (z, as, h1, t, nx, L', st')))) : h1 = h ∧ L' = L ∧ nx = pc + 3 ∧ lvT z + 1 ≤ lvT y ∧ ab_okz z = true ∧ ab_cat as ≤ mxT z := by
  obtain ⟨ins, v, w, nx0, a, b, t0, is⟩ := i
  have no : ∀ {P : Prop} {x : Nat × ab_L × List Value × ab_H}, (some (Sum.inl x) : Option ab_D) = some (.inr (.inr (z, as, h1, t, nx, L', st'))) → P := fun e => by cases e
  have no2 : ∀ {P : Prop} {x : Option Value × ab_H}, (some (Sum.inr (Sum.inl x)) : Option ab_D) = some (.inr (.inr (z, as, h1, t, nx, L', st'))) → P := fun e => by cases e
  revert hd
  unfold ab_st1 ab_stp
  split
  all_goals try (repeat' first
    | (refine al_pi (fun _ _ => ?_))
    | (refine al_pl (fun _ _ => ?_))
    | (refine al_ldi (fun _ => ?_))
    | (refine al_lda (fun _ => ?_))
    | (refine al_ldl (fun _ => ?_))
    | (refine al_gfi (fun _ => ?_))
    | (refine al_gfr (fun _ => ?_))
    | (refine al_gfl (fun _ => ?_))
    | (refine al_pf (fun _ hh => ?_))
    | (refine al_iald (fun _ => ?_))
    | (refine al_bald (fun _ => ?_))
    | (refine al_iast (fun _ hh => ?_))
    | (refine al_bast (fun _ hh => ?_))
    | (refine al_alen (fun _ => ?_))
    | (refine al_aald (fun _ => ?_))
    | (refine al_aast (fun _ hh => ?_))
    | (refine al_chk ?_)
    | (refine al_sw (fun _ => ?_))
    | exact no
    | exact no2
    | (intro e; cases e; done)
    | (refine al_pr (fun _ _ => ?_)))
  all_goals try (refine al_ite ?_ ?_ <;> exact no)
  all_goals try (split <;> first | exact no | exact no2 | (refine al_chk no2) | (intro e; cases e; done))
  all_goals try (refine al_ite (al_gfi (fun _ => no)) (al_ite (al_gfr (fun _ => no)) (al_gfl (fun _ => no))))
  all_goals try (refine al_ite (al_pi (fun _ _ => al_pr (fun _ _ => al_pf (fun _ _ => no)))) (al_ite (al_pr (fun _ _ => al_pr (fun _ _ => al_pf (fun _ _ => no)))) (al_pl (fun _ _ => al_pr (fun _ _ => al_pf (fun _ _ => no))))))
  all_goals try (refine al_ite no (fun e => by cases e))
  all_goals try (refine al_ite (fun e => by cases e) no)
  · rename_i k hi
    have hi : ins = .invokevirtual k := hi
    subst hi
    intro hd
    obtain ⟨hdc, hnx, h3⟩ := ab_ok_inv ho rfl
    simp only [ab_ok1, Bool.and_eq_true, ab_ia, ab_ib, ab_is] at h3
    obtain ⟨-, g1, g2, g3, g4⟩ := ab_call_iv h3.1.1.1.1
    obtain ⟨as0, r0, e1, e2, hd1⟩ := ab_popn_iv hd
    obtain ⟨hf, hd2⟩ := ab_fit_inv hd1
    obtain ⟨hw, hd3⟩ := ab_few_inv hd2
    obtain ⟨o, r1, e3, hd4⟩ := ab_pr_iv hd3
    obtain ⟨fs, e4, hd5⟩ := ab_ckc_inv hd4
    cases hd5
    exact ⟨rfl, rfl, hnx, g1, g2, by rw [← g4]; exact hf⟩
  · rename_i k hi
    have hi : ins = .invokestatic k := hi
    subst hi
    intro hd0
    rcases ab_ite_inv hd0 with ⟨_, hd⟩ | ⟨hn8, hd⟩
    · revert hd
      exact al_pi (fun _ _ => al_pi (fun _ _ => al_pr (fun _ _ => al_pi (fun _ _ => al_pr (fun _ _ => al_few (al_acp (fun _ _ => no)))))))
    rcases ab_ite_inv hd with ⟨_, hd1⟩ | ⟨hn10, hd1⟩
    · revert hd1
      exact al_pi (fun _ _ => al_pi (fun _ _ => al_few no))
    · rcases ab_ite_inv hd1 with ⟨_, hd2⟩ | ⟨hn11, hd2⟩
      · revert hd2
        exact al_pi (fun _ _ => al_pi (fun _ _ => al_few no))
      · obtain ⟨hdc, hnx, h3⟩ := ab_ok_inv ho rfl
        obtain ⟨as0, r0, e1, e2, hd3⟩ := ab_popn_iv hd2
        obtain ⟨hf, hd4⟩ := ab_fit_inv hd3
        obtain ⟨hw, hd5⟩ := ab_few_inv hd4
        cases hd5
        simp only [ab_ok1, ab_it] at h3
        rw [if_neg (show ¬ t0 = 8 from hn8), if_neg (show ¬ t0 = 10 from hn10), if_neg (show ¬ t0 = 11 from hn11)] at h3
        simp only [Bool.and_eq_true, ab_ia, ab_ib, ab_is] at h3
        obtain ⟨-, g1, g2, g3, g4⟩ := ab_call_iv h3.1
        exact ⟨rfl, rfl, hnx, g1, g2, by rw [← g4]; exact hf⟩
  · rename_i k hi
    have hi : ins = .invokespecial k := hi
    subst hi
    intro hd
    rcases ab_ite_inv hd with ⟨_, hd1⟩ | ⟨hn9, hd1⟩
    · revert hd1
      exact al_pr (fun _ _ => al_few (al_ite no (fun e => by cases e)))
    · obtain ⟨hdc, hnx, h3⟩ := ab_ok_inv ho rfl
      simp only [ab_ok1, ab_it] at h3
      rw [if_neg (show ¬ t0 = 9 from hn9)] at h3
      simp only [Bool.and_eq_true, ab_ia, ab_ib, ab_is] at h3
      obtain ⟨-, g1, g2, g3, g4⟩ := ab_call_iv h3.1.1.1.1
      obtain ⟨as0, r0, e1, e2, hd2⟩ := ab_popn_iv hd1
      obtain ⟨hf, hd3⟩ := ab_fit_inv hd2
      obtain ⟨hw, hd4⟩ := ab_few_inv hd3
      obtain ⟨o, r1, e3, hd6⟩ := ab_pr_iv hd4
      rcases ab_ite_inv hd6 with ⟨_, hd5⟩ | ⟨_, hd5⟩
      · cases hd5
        exact ⟨rfl, rfl, hnx, g1, g2, by rw [← g4]; exact hf⟩
      · cases hd5
def ab_isc : Instr → Bool
  | .invokevirtual _ => true
  | .invokestatic _ => true
  | .invokespecial _ => true
  | _ => false
theorem ab_call_kind {i : ab_I} (hd : ab_st1 i L st h = some (.inr (.inr (z, as, h1, t, nx, L', st')))) : ab_isc i.1 = true := by
  have no : ∀ {P : Prop} {x : Nat × ab_L × List Value × ab_H}, (some (Sum.inl x) : Option ab_D) = some (.inr (.inr (z, as, h1, t, nx, L', st'))) → P := fun e => by cases e
  have no2 : ∀ {P : Prop} {x : Option Value × ab_H}, (some (Sum.inr (Sum.inl x)) : Option ab_D) = some (.inr (.inr (z, as, h1, t, nx, L', st'))) → P := fun e => by cases e
  revert hd
  unfold ab_st1 ab_stp
  split
  all_goals first
    | (rename_i hi; intro _; rw [hi]; rfl)
    | (repeat' first
      | (refine al_pi (fun _ _ => ?_))
      | (refine al_pl (fun _ _ => ?_))
      | (refine al_ldi (fun _ => ?_))
      | (refine al_lda (fun _ => ?_))
      | (refine al_ldl (fun _ => ?_))
      | (refine al_gfi (fun _ => ?_))
      | (refine al_gfr (fun _ => ?_))
      | (refine al_gfl (fun _ => ?_))
      | (refine al_pf (fun _ hh => ?_))
      | (refine al_iald (fun _ => ?_))
      | (refine al_bald (fun _ => ?_))
      | (refine al_iast (fun _ hh => ?_))
      | (refine al_bast (fun _ hh => ?_))
      | (refine al_alen (fun _ => ?_))
      | (refine al_aald (fun _ => ?_))
      | (refine al_aast (fun _ hh => ?_))
      | (refine al_chk ?_)
      | (refine al_sw (fun _ => ?_))
      | exact no
      | exact no2
      | (intro e; cases e; done)
      | (refine al_pr (fun _ _ => ?_))
      | (refine al_ite ?_ ?_)
      | split)
theorem ab_call_inj {a0 t1 n1 : Nat} {as0 r0 : List Value} {hh : ab_H} {LL : ab_L} (e : (some (.inr (.inr (a0, as0, hh, t1, n1, LL, r0))) : Option ab_D) = some (.inr (.inr (z, as, h1, t, nx, L', st')))) : z = a0 ∧ as = as0 ∧ st' = r0 := by
  cases e
  exact ⟨rfl, rfl, rfl⟩
/-- a call: the callee's contract, then what goes on -/
theorem ab_callstep {i : ab_I} (F : ab_Fr q n0 y p R s m args meth c) (ho : ab_ok y pc i = true) (hd : ab_st1 i L st h = some (.inr (.inr (z, as, h, t, pc + 3, L, st')))) (hn : n0 ≤ h.1) (hle : h.1 ≤ h2.1) (hrm : h2.1 - n0 ≤ R.cells ∧ 200 * (h2.1 - n0) ≤ R.slots)
    (M : Met l (nmT z) (ab_ws z) (ab_rm z (h2.1 - h.1)) (ab_Pc q as h) (ab_Qc q v1 h2) (h2.1 - h.1) (200 * (h2.1 - h.1)) (ab_A q))
    (kk : ab_W q n0 y p l e R s m args below meth c Q (pc + 3) L (v1.toList ++ st') h2) : ab_W q n0 y p l e R s m args below meth c Q pc L st h := by
  obtain ⟨-, -, -, hlz, hokz, hfitz⟩ := ab_call_look ho hd
  obtain ⟨hzM, hG, hzi, hzh, hz16⟩ := ab_okz_iv hokz
  obtain ⟨ins, v, w, nx0, a, b, t0, is⟩ := i
  intro H locs ls hl hC hS
  obtain ⟨hx, hb, hml, hown, hts, hnm, hfr, hlo, hlv, hK, hO, hBs, hg⟩ := F
  refine W.size (fun hz => ?_)
  have hsz : H.size = qB q + (h.1 - 16) := ab_C_size hC hBs hn hz hS.1
  have S : CallFix p m c (byT y) (mxT y) s args lw_g (nmT y).cls := ⟨hx, hb, hml, hown, hts⟩
  have hR : (ab_rm z (h2.1 - h.1)).frames + 1 ≤ R.frames ∧ 8 + (mxT z + 11) + (ab_rm z (h2.1 - h.1)).locals ≤ R.locals := by
    constructor
    · show lvT z + 1 ≤ R.frames
      omega
    · show 8 + (mxT z + 11) + 35 * lvT z ≤ R.locals
      omega
  have hf : (h.1 - n0) + (h2.1 - h.1) ≤ R.cells ∧ 200 * (h.1 - n0) + 200 * (h2.1 - h.1) ≤ R.slots := by omega
  have hini : (Cond.initialized (nmT z).cls).before args s = true := hts _ hzi
  have pre : ∀ U : State, U.heap = H → s.WarmedH U.vm → ab_Pc q as h (as.map (ab_cv q)).toArray U := fun U hU hW => ⟨rfl, by rw [hU]; exact hC, by rw [hU]; exact hsz, hK.warm hW, by rw [hU]; exact (hO.kept (fun z h1 h2 => hS.2.1 z h1 h2)).moved hW.alike⟩
  have fin : ∀ {aa : Array Value} {st0 : List Value}, va_Run p l e R s m args below meth c H locs (h.1 - n0) (200 * (h.1 - n0)) (h2.1 - h.1) (200 * (h2.1 - h.1)) (F0 m pc ls st0) (st'.map (ab_cv q)) (ab_Qc q v1 h2 aa) (ab_A q) → W p l e R s m args below meth c H locs (h.1 - n0) (200 * (h.1 - n0)) Q (F0 m pc ls st0) := by
    intro aa st0 hr
    refine ab_after hr hS (fun H1 locs1 hC1 hS1 => ?_)
    have hk := kk H1 locs1 ls hl hC1 hS1
    rw [show h2.1 - n0 = (h.1 - n0) + (h2.1 - h.1) by omega, Nat.mul_add] at hk
    have e1 : (v1.toList ++ st').map (ab_cv q) = (v1.map (ab_cv q)).toList ++ st'.map (ab_cv q) := by
      cases v1 <;> rfl
    rw [e1] at hk
    exact hk
  have hsize : (F0 m pc ls (st.map (ab_cv q))).locals.size = mxT y := hl.2.1
  cases ins with
  | invokevirtual k =>
    obtain ⟨hdc, hnx, h3⟩ := ab_ok_inv ho rfl
    simp only [ab_ok1, Bool.and_eq_true, ab_ia, ab_ib, ab_is, decide_eq_true_eq] at h3
    obtain ⟨⟨⟨⟨h4, hb1⟩, h5⟩, h6⟩, h7⟩ := h3
    obtain ⟨hlk, -, -, hpar, -⟩ := ab_call_iv h4
    obtain ⟨as0, r0, e1, e2, hd1⟩ := ab_popn_iv hd
    obtain ⟨hf1, hd2⟩ := ab_fit_inv hd1
    obtain ⟨hw, hd3⟩ := ab_few_inv hd2
    obtain ⟨o, r1, e3, hd4⟩ := ab_pr_iv hd3
    obtain ⟨fs, e4, hd5⟩ := ab_ckc_inv hd4
    obtain ⟨ez, ea, es⟩ := ab_call_inj hd5
    have ez : z = a := ez
    subst ez ea es
    subst e3
    have hb1 := Nat.le_of_ble_eq_true hb1
    have e2 : (Value.ref o :: r1).length = b := e2
    have hlen : (r1.map (ab_cv q)).length = b - 1 := by
      rw [List.length_map]
      simp only [List.length_cons] at e2
      omega
    have hcat := ab_cat_map hg st'
    have recv : ∃ x : Nat, ab_g q o = .ref x ∧ ∃ cellB : Cell, H[x]? = some cellB ∧ cellB.vm.isStatics = false ∧ s.vm.findClass (nmT z).cls = some cellB.cls := by
      have e4 : ab_get h o = some (.inr (is.getD 0 0, fs)) := e4
      by_cases hc : is.getD 0 0 = 20
      · rw [if_pos hc, decide_eq_true_eq] at h7
        rw [hc] at e4
        obtain ⟨j, hj, -, hgj, -⟩ := ab_at_str hC.1 e4
        refine ⟨_, hgj, ?_⟩
        rw [show (nmT z).cls = "java/lang/String" from h7]
        exact vk_recv hO.2.2.1 hj hS
      · rw [if_neg hc, decide_eq_true_eq] at h7
        cases hr : vwCl[is.getD 0 0]? with
        | none => rw [hr] at h7; cases h7
        | some r =>
          rw [hr] at h7
          have h7 : r.1 = (nmT z).cls := Option.some.inj h7
          obtain ⟨hc12, -⟩ := ab_cls_of hr
          obtain ⟨-, hgo, hat⟩ := ab_at_obj hC.1 e4 hc12
          refine ⟨_, hgo, ?_⟩
          rw [← h7]
          exact va_recv hK.1 hC.2 hr hat
    obtain ⟨x, hgx, hcell⟩ := recv
    have e5 : (Value.ref o :: r1).map (ab_cv q) = Value.ref x :: r1.map (ab_cv q) := by
      rw [List.map_cons]
      congr 1
    have hp : PreV s H (nmT z).cls x (ab_Pc q (Value.ref o :: r1) h) (r1.map (ab_cv q)) := ⟨ab_blind _ _, hcell, fun U hU hW => by rw [← e5]; exact pre U hU hW⟩
    have hstack : (F0 m pc ls (st.map (ab_cv q))).stack = (r1.map (ab_cv q)).reverse ++ .ref x :: st'.map (ab_cv q) := by
      show st.map (ab_cv q) = _
      rw [e1, List.map_append, List.map_reverse, e5, List.reverse_cons, List.append_assoc]
      rfl
    have hW8 : 2 * (F0 m pc ls (st.map (ab_cv q))).monitorRoom + ((st'.map (ab_cv q)).map fun v => v.category).sum ≤ 8 := lv_room (by rw [hcat]; exact hw)
    simp only [ab_link, Bool.or_eq_true, decide_eq_true_eq] at hlk
    rcases hlk with hlk | hlk
    · exact fin (va_runV S M ⟨callB_of (b - 1) hts hG rfl rfl rfl hini (hts _ (lw_g_of hlk rfl)) ⟨hzh.1, hzh.2, hpar⟩ hR, hts _ (lw_g_of h5 rfl), hts _ (lw_g_of h6 rfl)⟩ hp rfl hlen hsize hstack hW8 hdc hf)
    · exact fin (va_runVN S M ⟨va_cnB (b - 1) hts hG rfl rfl rfl (hK.2.2.2 _ _ _ _ (List.mem_of_getElem? hlk)) hini ⟨hzh.1, hzh.2, hpar⟩ hR, hts _ (lw_g_of h5 rfl), hts _ (lw_g_of h6 rfl)⟩ hp rfl hlen hsize hstack hW8 hdc hf)
  | invokestatic k =>
    obtain ⟨hdc, hnx, h3⟩ := ab_ok_inv ho rfl
    rcases ab_ite_inv hd with ⟨_, hd0⟩ | ⟨hn8, hd0⟩
    · exfalso
      revert hd0
      exact al_pi (fun _ _ => al_pi (fun _ _ => al_pr (fun _ _ => al_pi (fun _ _ => al_pr (fun _ _ => al_few (al_acp (fun _ _ e => by cases e)))))))
    rcases ab_ite_inv hd0 with ⟨_, hd1⟩ | ⟨hn10, hd1⟩
    · exfalso
      revert hd1
      exact al_pi (fun _ _ => al_pi (fun _ _ => al_few (fun e => by cases e)))
    rcases ab_ite_inv hd1 with ⟨_, hd2⟩ | ⟨hn11, hd2⟩
    · exfalso
      revert hd2
      exact al_pi (fun _ _ => al_pi (fun _ _ => al_few (fun e => by cases e)))
    simp only [ab_ok1, ab_it] at h3
    rw [if_neg (show ¬ t0 = 8 from hn8), if_neg (show ¬ t0 = 10 from hn10), if_neg (show ¬ t0 = 11 from hn11)] at h3
    simp only [Bool.and_eq_true, ab_ia, ab_ib, ab_is, decide_eq_true_eq] at h3
    obtain ⟨hlk, -, -, hpar, -⟩ := ab_call_iv h3.1
    obtain ⟨as0, r0, e1, e2, hd3⟩ := ab_popn_iv hd2
    obtain ⟨hf1, hd4⟩ := ab_fit_inv hd3
    obtain ⟨hw, hd5⟩ := ab_few_inv hd4
    obtain ⟨ez, ea, es⟩ := ab_call_inj hd5
    have ez : z = a := ez
    subst ez ea es
    have e2 : as.length = b := e2
    have hcat := ab_cat_map hg st'
    have hp : PreS s H (ab_Pc q as h) (as.map (ab_cv q)) := ⟨ab_blind _ _, pre⟩
    have hstack : (F0 m pc ls (st.map (ab_cv q))).stack = (as.map (ab_cv q)).reverse ++ st'.map (ab_cv q) := by
      show st.map (ab_cv q) = _
      rw [e1, List.map_append, List.map_reverse]
    have hW8 : 2 * (F0 m pc ls (st.map (ab_cv q))).monitorRoom + ((st'.map (ab_cv q)).map fun v => v.category).sum ≤ 8 := lv_room (by rw [hcat]; exact hw)
    simp only [ab_link, Bool.or_eq_true, decide_eq_true_eq] at hlk
    rcases hlk with hlk | hlk
    · exact fin (va_runS S M ⟨callB_of b hts hG rfl rfl rfl hini (hts _ (lw_g_of hlk rfl)) ⟨hzh.1, hzh.2, hpar⟩ hR, hts _ (lw_g_of h3.2 rfl)⟩ hp rfl (by rw [List.length_map]; exact e2) hsize hstack hW8 hdc hf)
    · exact fin (va_runSN S M ⟨va_cnB b hts hG rfl rfl rfl (hK.2.2.2 _ _ _ _ (List.mem_of_getElem? hlk)) hini ⟨hzh.1, hzh.2, hpar⟩ hR, hts _ (lw_g_of h3.2 rfl), trivial⟩ hp rfl (by rw [List.length_map]; exact e2) hsize hstack hW8 hdc hf)
  | invokespecial k =>
    obtain ⟨hdc, hnx, h3⟩ := ab_ok_inv ho rfl
    rcases ab_ite_inv hd with ⟨_, hd1⟩ | ⟨hn9, hd1⟩
    · exfalso
      revert hd1
      exact al_pr (fun _ _ => al_few (al_ite (fun e => by cases e) (fun e => by cases e)))
    simp only [ab_ok1, ab_it] at h3
    rw [if_neg (show ¬ t0 = 9 from hn9)] at h3
    simp only [Bool.and_eq_true, ab_ia, ab_ib, ab_is, decide_eq_true_eq] at h3
    obtain ⟨⟨⟨⟨h4, hb1⟩, h5⟩, h6⟩, h7⟩ := h3
    obtain ⟨hlk, -, -, hpar, -⟩ := ab_call_iv h4
    obtain ⟨as0, r0, e1, e2, hd2⟩ := ab_popn_iv hd1
    obtain ⟨hf1, hd3⟩ := ab_fit_inv hd2
    obtain ⟨hw, hd4⟩ := ab_few_inv hd3
    obtain ⟨o, r1, e3, hd6⟩ := ab_pr_iv hd4
    rcases ab_ite_inv hd6 with ⟨hd16, hd5⟩ | ⟨_, hd5⟩
    case inr => cases hd5
    obtain ⟨ez, ea, es⟩ := ab_call_inj hd5
    have ez : z = a := ez
    subst ez ea es
    subst e3
    have hb1 := Nat.le_of_ble_eq_true hb1
    have e2 : (Value.ref o :: r1).length = b := e2
    have hlen : (r1.map (ab_cv q)).length = b - 1 := by
      rw [List.length_map]
      simp only [List.length_cons] at e2
      omega
    have hcat := ab_cat_map hg st'
    have hW8 : 2 * (F0 m pc ls (st.map (ab_cv q))).monitorRoom + ((st'.map (ab_cv q)).map fun v => v.category).sum ≤ 8 := lv_room (by rw [hcat]; exact hw)
    have h16 : 16 ≤ o := hd16
    have e5 : (Value.ref o :: r1).map (ab_cv q) = Value.ref (qB q + (o - 16)) :: r1.map (ab_cv q) := by
      rw [List.map_cons]
      congr 1
      exact ab_g_real q h16
    have hp : PreS s H (ab_Pc q (Value.ref o :: r1) h) (Value.ref (qB q + (o - 16)) :: r1.map (ab_cv q)) := ⟨ab_blind _ _, fun U hU hW => by rw [← e5]; exact pre U hU hW⟩
    have hstack : (F0 m pc ls (st.map (ab_cv q))).stack = (r1.map (ab_cv q)).reverse ++ .ref (qB q + (o - 16)) :: st'.map (ab_cv q) := by
      show st.map (ab_cv q) = _
      rw [e1, List.map_append, List.map_reverse, e5, List.reverse_cons, List.append_assoc]
      rfl
    have M : Met l (nmT z) (Cond.code (nmT z) (byT z) (mxT z) none :: lw_g) (ab_rm z (h2.1 - h.1)) (ab_Pc q (Value.ref o :: r1) h) (ab_Qc q v1 h2) (h2.1 - h.1) (200 * (h2.1 - h.1)) (ab_A q) := by
      have := M
      unfold ab_ws at this
      rw [show rtT z = none from h7] at this
      exact this
    have hG : GoodIn lw_g (Cond.code (nmT z) (byT z) (mxT z) none :: lw_g) := by
      have := hG
      unfold ab_ws at this
      rw [show rtT z = none from h7] at this
      exact this
    simp only [ab_link, Bool.or_eq_true, decide_eq_true_eq] at hlk
    rcases hlk with hlk | hlk
    · exact fin (va_runI S M ⟨callB_of (b - 1) hts hG rfl rfl rfl hini (hts _ (lw_g_of hlk rfl)) ⟨hzh.1, hzh.2, hpar⟩ hR, h6, hts _ (lw_g_of h5 rfl)⟩ hp rfl hlen hsize hstack hW8 hdc hf)
    · exact fin (va_runIN S M ⟨va_cnB (b - 1) hts hG rfl rfl rfl (hK.2.2.2 _ _ _ _ (List.mem_of_getElem? hlk)) hini ⟨hzh.1, hzh.2, hpar⟩ hR, h6, hts _ (lw_g_of h5 rfl)⟩ hp rfl hlen hsize hstack hW8 hdc hf)
  | _ => exact Bool.noConfusion (show false = true from ab_call_kind hd)
end
/-- THE REAL MACHINE FOLLOWS THE PURE ONE -/
theorem ab_sim {l : Launch} {q : ab_Q} (hg9 : qv9 q = .null ∨ ∃ z, qv9 q = .ref z) (hg : ∀ k, (ab_g q k).category = 1) (hall : ∀ y pc i, cdT y pc = some i → ab_ok y pc i = true) :
    ∀ (f : Nat) {y pc : Nat} {L : ab_L} {st : List Value} {h : ab_H} {v : Option Value} {h' : ab_H}, ab_run cdT mxT f y pc L st h = some (v, h') →
    ∀ {p : Program} {e : Env} {R : Room} {s : State} {m : MethodId} {args : Array Value} {below : List Frame} {meth : Method} {c : Code} {Q : State → Prop} {n0 : Nat}, ab_Fr q n0 y p R s m args meth c → n0 ≤ h.1 → (h'.1 - n0 ≤ R.cells ∧ 200 * (h'.1 - n0) ≤ R.slots) → ab_Rt q n0 y p l e R s m args below meth c Q v h' → ab_W q n0 y p l e R s m args below meth c Q pc L st h := by
  intro f
  induction f with
  | zero => intro y pc L st h v h' e; cases e
  | succ f ih =>
    intro y pc L st h v h' er p e R s m args below meth c Q n0 F hn hrm hrt
    rw [ab_run] at er
    cases hc : cdT y pc with
    | none => rw [hc] at er; cases er
    | some i =>
      rw [hc] at er
      dsimp only at er
      have ho := hall y pc i hc
      cases hd : ab_st1 i L st h with
      | none => rw [hd] at er; cases er
      | some d =>
        rw [hd, Option.bind_some] at er
        have hm := ab_st1_mono hd
        rcases d with ⟨pc', L', st', h2⟩ | ⟨v2, h2⟩ | ⟨z, as, h2, t, nx, L', st'⟩
        · have hm : h.1 ≤ h2.1 := hm
          have hle := ab_run_le_heap f er
          exact ab_step hg9 F ho hd hn (by omega) (ih er F (Nat.le_trans hn hm) hrm hrt)
        · cases er
          exact ab_ret ho hd hrt
        · obtain ⟨e1, e2, e3, hlz, hokz, hfit⟩ := ab_call_look ho hd
          subst e1 e2 e3
          obtain ⟨v3, h3, k1, k2, -⟩ := ab_cal_inv er
          have hle1 := ab_run_le_heap f k1
          have hle2 := ab_run_le_heap f k2
          have h16 : 16 ≤ h2.1 := Nat.le_trans F.2.2.2.2.2.2.2.2.2.2.2.1.2 hn
          have M := ab_met (l := l) (q := q) (h := h2) (z := z) (as := as) (v1 := v3) (h2 := h3) hg hokz (lv_pos (ab_okz_iv hokz).1) h16 hfit (fun F1 hr1 ht1 => ih k1 F1 (Nat.le_refl _) hr1 ht1)
          exact ab_callstep F ho hd hn hle1 (by omega) M (ih k2 F (Nat.le_trans hn hle1) hrm hrt)
