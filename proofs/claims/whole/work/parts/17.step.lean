/-! every instruction that goes on; every call; the whole run -/
section
variable {q : ab_Q} {n0 y : Nat} {p : Program} {l : Launch} {e : Env} {R : Room} {s : State} {m : MethodId} {args : Array Value} {below : List Frame} {meth : Method} {c : Code} {Q : State → Prop} {pc : Nat} {L L' : ab_L} {st st' : List Value} {h h' : ab_H} {pc' : Nat}
set_option maxHeartbeats 4000000 in
theorem ab_step (hg9 : qv9 q = .null ∨ ∃ z, qv9 q = .ref z) {i : ab_I} (F : ab_Fr q n0 y p R s m args meth c) (ho : ab_ok y pc i = true) (hd : ab_st1 i L st h = some (.inl (pc', L', st', h'))) (hn : n0 ≤ h.1) (hrm : h'.1 - n0 ≤ R.cells ∧ 200 * (h'.1 - n0) ≤ R.slots) (kk : ab_W q n0 y p l e R s m args below meth c Q pc' L' st' h') : ab_W q n0 y p l e R s m args below meth c Q pc L st h := by
  obtain ⟨ins, v, w, nx, a, b, t, is⟩ := i
  cases ins with
  | iconst n => exact sx_iconst F ho hd kk
  | bipush n => exact sx_bipush F ho hd kk
  | sipush n => exact sx_sipush F ho hd kk
  | ldc k => exact sx_ldc F ho hd kk
  | ldc_w k => exact sx_ldc_w F ho hd kk
  | lconst k => exact sx_lconst F ho hd kk
  | ldc2_w k => exact sx_ldc2_w F ho hd kk
  | iload k => exact sx_iload F ho hd kk
  | iload_n k => exact sx_iload_n F ho hd kk
  | lload k => exact sx_lload F ho hd kk
  | lload_n k => exact sx_lload_n F ho hd kk
  | istore k => exact sx_istore F ho hd kk
  | istore_n k => exact sx_istore_n F ho hd kk
  | lstore k => exact sx_lstore F ho hd kk
  | lstore_n k => exact sx_lstore_n F ho hd kk
  | iinc k n => exact sx_iinc F ho hd kk
  | iadd => exact sx_iadd F ho hd kk
  | isub => exact sx_isub F ho hd kk
  | imul => exact sx_imul F ho hd kk
  | iand => exact sx_iand F ho hd kk
  | ior => exact sx_ior F ho hd kk
  | ixor => exact sx_ixor F ho hd kk
  | ishl => exact sx_ishl F ho hd kk
  | ishr => exact sx_ishr F ho hd kk
  | iushr => exact sx_iushr F ho hd kk
  | idiv => exact sx_idiv F ho hd kk
  | irem => exact sx_irem F ho hd kk
  | ladd => exact sx_ladd F ho hd kk
  | lmul => exact sx_lmul F ho hd kk
  | ldiv => exact sx_ldiv F ho hd kk
  | lrem => exact sx_lrem F ho hd kk
  | lcmp => exact sx_lcmp F ho hd kk
  | i2l => exact sx_i2l F ho hd kk
  | l2i => exact sx_l2i F ho hd kk
  | i2b => exact sx_i2b F ho hd kk
  | i2c => exact sx_i2c F ho hd kk
  | goto o => exact sx_goto F ho hd kk
  | pop => exact sx_pop F ho hd kk
  | dup => exact sx_dup F ho hd kk
  | dup2 => exact sx_dup2 F ho hd kk
  | getfield k => exact sx_getfield F ho hd kk
  | getstatic k => exact sx_getstatic F ho hd kk
  | iaload => exact sx_iaload F ho hd kk
  | baload => exact sx_baload F ho hd kk
  | iastore => exact sx_iastore F ho hd kk
  | bastore => exact sx_bastore F ho hd kk
  | aastore => exact sx_aastore F ho hd kk
  | arraylength => exact sx_arraylength F ho hd kk
  | aload k => exact sx_aload hg9 F ho hd kk
  | aload_n k => exact sx_aload_n hg9 F ho hd kk
  | astore k => exact sx_astore hg9 F ho hd kk
  | astore_n k => exact sx_astore_n hg9 F ho hd kk
  | putfield k => exact sx_putfield hg9 F ho hd kk
  | aaload => exact sx_aaload hg9 F ho hd kk
  | new k => exact sx_new F ho hd hn hrm kk
  | newarray k => exact sx_newarray F ho hd hn hrm kk
  | anewarray k => exact sx_anewarray F ho hd hn hrm kk
  | tableswitch d lo hi offs => exact sx_tableswitch F ho hd kk
  | ifCond cnd o => cases cnd with
    | eq => exact sx_if_eq F ho hd kk
    | ne => exact sx_if_ne F ho hd kk
    | lt => exact sx_if_lt F ho hd kk
    | ge => exact sx_if_ge F ho hd kk
    | gt => exact sx_if_gt F ho hd kk
    | le => exact sx_if_le F ho hd kk
  | if_icmp cnd o => cases cnd with
    | eq => exact sx_icmp_eq F ho hd kk
    | ne => exact sx_icmp_ne F ho hd kk
    | lt => exact sx_icmp_lt F ho hd kk
    | ge => exact sx_icmp_ge F ho hd kk
    | gt => exact sx_icmp_gt F ho hd kk
    | le => exact sx_icmp_le F ho hd kk
  | invokespecial k =>
    rcases ab_ite_inv hd with ⟨ht, hd1⟩ | ⟨ht, hd1⟩
    · exact sx_objinit hg9 ht F ho hd kk
    · exfalso
      revert hd1
      refine al_popn (fun _ _ => al_fit (al_few (al_pr (fun _ _ => al_ite ?_ ?_))))
      · intro e1; cases e1
      · intro e1; cases e1
  | invokevirtual k =>
    exfalso
    revert hd
    refine al_popn (fun _ _ => al_fit (al_few (al_pr (fun _ _ => al_ckc ?_))))
    intro e1; cases e1
  | invokestatic k =>
    rcases ab_ite_inv hd with ⟨ht, hd1⟩ | ⟨ht, hd1⟩
    · exact sx_arraycopy ht F ho hd kk
    · rcases ab_ite_inv hd1 with ⟨ht, hd2⟩ | ⟨ht, hd2⟩
      · have e0 : h'.1 = h.1 := by
          revert hd2
          refine al_pi (fun _ _ => al_pi (fun _ _ => al_few ?_))
          intro e1; cases e1; rfl
        exact sx_mmin ht F ho hd (by rw [← e0]; exact hrm) kk
      · rcases ab_ite_inv hd2 with ⟨ht, hd3⟩ | ⟨ht, hd3⟩
        · have e0 : h'.1 = h.1 := by
            revert hd3
            refine al_pi (fun _ _ => al_pi (fun _ _ => al_few ?_))
            intro e1; cases e1; rfl
          exact sx_mmax ht F ho hd (by rw [← e0]; exact hrm) kk
        · exfalso
          revert hd3
          refine al_popn (fun _ _ => al_fit (al_few ?_))
          intro e1; cases e1
  | ireturn =>
    exfalso
    simp only [ab_st1, ab_stp] at hd
    split at hd
    · revert hd
      refine al_chk ?_
      intro e1; cases e1
    · cases hd
  | lreturn =>
    exfalso
    simp only [ab_st1, ab_stp] at hd
    split at hd <;> cases hd
  | return_ =>
    exfalso
    simp only [ab_st1, ab_stp] at hd
    split at hd <;> cases hd
  | _ => cases hd
/-- a contract's start and end -/
def ab_Pc (q : ab_Q) (as : List Value) (h : ab_H) : Array Value → State → Prop := fun a U => a = (as.map (ab_cv q)).toArray ∧ ab_C q h U.heap ∧ U.heap.size = qB q + (h.1 - 16) ∧ ab_K q U ∧ ab_O q U U.heap
def ab_Qc (q : ab_Q) (v : Option Value) (h' : ab_H) : Array Value → State → Outcome → State → Prop := fun _ st o t => o = .returned (v.map (ab_cv q)) ∧ ab_C q h' t.heap ∧ va_F (ab_A q) st t
def ab_rm (z mc : Nat) : Room := { frames := lvT z, cells := mc, slots := 200 * mc, locals := 35 * lvT z }
abbrev ab_ws (z : Nat) : List Cond := Cond.code (nmT z) (byT z) (mxT z) (rtT z) :: lw_g
theorem ab_blind (as : List Value) (h : ab_H) : FrameBlind (ab_Pc q as h) := fun a U g mk hp => by
  obtain ⟨h1, h2, h3, h4, h5⟩ := hp
  exact ⟨h1, h2, h3, ab_K.same (u := U) rfl h4, ab_O.moved (u := U) (Vm.Alike.refl U.vm) h5⟩
theorem ab_after {v1 : Option Value} {h2 : ab_H} {mc ms : Nat} {H : Heap} {locs : List Loc} {ls : Array Slot} {st0 rest : List Value} {aa : Array Value} {cells slots : Nat} (hr : va_Run p l e R s m args below meth c H locs cells slots mc ms (F0 m pc ls st0) rest (ab_Qc q v1 h2 aa) (ab_A q)) (hS : va_S (ab_A q) s.heap H locs)
    (kk : ∀ (H1 : Heap) (locs1 : List Loc), ab_C q h2 H1 → va_S (ab_A q) s.heap H1 locs1 → W p l e R s m args below meth c H1 locs1 (cells + mc) (slots + ms) Q (F0 m (pc + 3) ls ((v1.map (ab_cv q)).toList ++ rest))) : W p l e R s m args below meth c H locs cells slots Q (F0 m pc ls st0) := by
  intro T hT X
  obtain ⟨v, st₀, t, T', L, h0, X', hL, e1, e2, ⟨ho, hC2, hz, hk⟩, stp⟩ := hr T hT X
  cases ho
  rw [h0] at hz hk
  obtain ⟨t2, a1, b1⟩ := kk T'.heap (locs ++ L) (by rw [e1]; exact hC2) ⟨Nat.le_trans hS.1 (by rw [e1]; exact hz), fun z g1 g2 => by rw [e1, hk z (Nat.lt_of_lt_of_le g1 hS.1) g2]; exact hS.2.1 z g1 g2, fun z hz => by
    rcases List.mem_append.mp hz with g | g
    · exact hS.2.2 z g
    · exact hL z g⟩ T' rfl X'
  exact ⟨t2, stp t2 a1, b1⟩
/-- a method's contract, out of a run of it from its entry -/
theorem ab_met {z : Nat} {as : List Value} {v1 : Option Value} {h2 : ab_H} (hg : ∀ k, (ab_g q k).category = 1) (hz : ab_okz z = true) (hlv : 1 ≤ lvT z) (h16 : 16 ≤ h.1) (hfit : ab_cat as ≤ mxT z)
    (IH : ∀ {p : Program} {e : Env} {R : Room} {s : State} {m : MethodId} {args : Array Value} {below : List Frame} {meth : Method} {c : Code} {Q : State → Prop}, ab_Fr q h.1 z p R s m args meth c → (h2.1 - h.1 ≤ R.cells ∧ 200 * (h2.1 - h.1) ≤ R.slots) → ab_Rt q h.1 z p l e R s m args below meth c Q v1 h2 → ab_W q h.1 z p l e R s m args below meth c Q 0 (ab_ent (mxT z) as) [] h) :
    Met l (nmT z) (ab_ws z) (ab_rm z (h2.1 - h.1)) (ab_Pc q as h) (ab_Qc q v1 h2) (h2.1 - h.1) (200 * (h2.1 - h.1)) (ab_A q) := by
  simp only [ab_okz, Bool.and_eq_true, decide_eq_true_eq] at hz
  refine Met.ofW (cc := byT z) (maxL := mxT z) (ret := rtT z) hz.2 rfl ?_
  intro p e s m args below meth c s₁ B hml hv
  obtain ⟨rfl, hC, hsz, hK, hO⟩ := hv
  have hx := B.exec
  have hb := B.bytes
  have hr := B.returns
  have hts := atoms_spec (ws := ab_ws z) B.pre
  have hown : s.vm.findClass (nmT z).cls = some m.cls := findClass_of_methodNamed B.named
  have hlocks := B.notSynchronized
  have hin : meth.name = (nmT z).name := (name_of_methodNamed B.named B.method).1
  have hlen : (lg_sl (as.map (ab_cv q))).length ≤ mxT z := by
    have e1 : ∀ vs : List Value, (lg_sl vs).length = (vs.map fun v => v.category).sum := by
      intro vs
      induction vs with
      | nil => rfl
      | cons a r ih =>
        have : lg_sl (a :: r) = (if a.category = 2 then [.val a, .second] else [.val a]) ++ lg_sl r := rfl
        rw [this, List.length_append, ih, List.map_cons, List.sum_cons]
        rcases lv_cat a with h | h
        · simp [h]
        · simp [h]
    rw [e1, ab_cat_map hg]
    exact hfit
  rw [lg_entry_eq]
  have F : ab_Fr q h.1 z p (headSpec (ab_ws z) (ab_rm z (h2.1 - h.1))).room s m (as.map (ab_cv q)).toArray meth c := ⟨hx, hb, hml, hown, fun w hw => hts w (List.mem_cons_of_mem _ hw), (fun hh => hin.trans hh), Nat.le_refl _, Nat.le_refl _, hlv, hK, hO, ⟨hsz, h16⟩, hg⟩
  have hW := IH (e := e) (below := below) (Q := MQ below (ab_Qc q v1 h2) (as.map (ab_cv q)).toArray s (h2.1 - h.1) (200 * (h2.1 - h.1)) (ab_A q)) F ⟨Nat.le_refl _, Nat.le_refl _⟩ (fun H locs ls pc hC1 hS1 => by
    have fin : ∀ (vv : Option Value), v1.map (ab_cv q) = vv → ∀ t : State, t.heap = H → s.WarmedH t.vm → ab_Qc q v1 h2 (as.map (ab_cv q)).toArray s (.returned vv) t := fun vv hvv t ht _ => ⟨by rw [hvv], by rw [ht]; exact hC1, hS1.F ht⟩
    refine ⟨fun x hx1 hdc hrt => ?_, fun x hx1 hdc hrt => ?_, fun hx1 hdc hrt => ?_⟩
    · obtain ⟨t, g1, g2⟩ := hrt
      have hfin := fin (some (.int x)) (by rw [hx1]; rfl)
      unfold ab_rtk at g1
      split at g1
      · rename_i hrr
        exact W.iret hx hb (by rw [hr]; exact hrr) hfin hS1.2.2 hdc
      · rename_i hrr
        have ht : t = 1 := Nat.eq_of_beq_eq_true g1
        subst ht
        have hn : vp_nar .boolean x = x := by
          rcases g2 with g2 | g2
          · cases g2
          · exact of_decide_eq_true g2
        exact W.zret hx hb (by rw [hr]; exact hrr) (show narrow .boolean (.int x) = .int x from congrArg Value.int hn) hfin hS1.2.2 hdc
      · rename_i hrr
        have ht : t = 2 := Nat.eq_of_beq_eq_true g1
        subst ht
        have hn : vp_nar .byte x = x := by
          rcases g2 with g2 | g2
          · cases g2
          · exact of_decide_eq_true g2
        exact W.zret hx hb (by rw [hr]; exact hrr) (show narrow .byte (.int x) = .int x from congrArg Value.int hn) hfin hS1.2.2 hdc
      · rename_i hrr
        have ht : t = 3 := Nat.eq_of_beq_eq_true g1
        subst ht
        have hn : vp_nar .char x = x := by
          rcases g2 with g2 | g2
          · cases g2
          · exact of_decide_eq_true g2
        exact W.zret hx hb (by rw [hr]; exact hrr) (show narrow .char (.int x) = .int x from congrArg Value.int hn) hfin hS1.2.2 hdc
      · cases g1
    · exact W.lret hx hb (by rw [hr]; exact hrt) (fin (some (.long x)) (by rw [hx1]; rfl)) hS1.2.2 hdc
    · exact W.vret hx hb (by rw [hr]; exact hrt) (fin none (by rw [hx1]; rfl)) hS1.2.2 hdc)
  have := hW s.heap [] _ (ab_lr_ent hg hlen) hC va_S.rf
  rw [Nat.sub_self] at this
  exact this
end
