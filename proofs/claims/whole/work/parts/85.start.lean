/-! THE CLAIM OUT OF ONE WALK OF THE LAW'S BODY. Your part is whole_start (and what it stands on); all else here is the same for every law, but numbers. -/
def R_law : String := "RopeLawLaw"
def lw_P (b : Addr) (xs : List Int32) (args : Array Value) (s : State) : Prop := args = #[.ref b] ∧ s.IntsAt b xs ∧ xs.length ≤ 320 ∧ (Jvm.Cond.and given_1 narrow_1).before args s = true
def lw_Q (_ : Array Value) (s : State) (o : Outcome) (t : State) : Prop := o = .returned (some (.int 1)) ∧ Framed s o t [] 600000 7302250
def lw_Z (below : List Frame) (a : Array Value) (s : State) : State → Prop := fun t => ∃ o, t.status = .running ∧ Ended t below o ∧ lw_Q a s o t
/-- the law's own end, with 1 on the stack, nothing written that was there before, its room as the claim has it -/
theorem lw_ret {p : Program} {l : Launch} {e : Env} {s : State} {m : MethodId} {below : List Frame} {meth : Method} {c : Code} {b : Nat} (hx : p.tables.exec = Jvm.exec) (hb : c.code = code) (hr : meth.sig.returnType = ret) (hlocks : meth.locks = false) {pc : Nat} {H : Heap} {ls : Array Slot} (hdg : decode code pc = .ok (.ireturn, 1)) : W p l e room_1 s m #[Value.ref b] below meth c H [] 600000 7302250 (lw_Z below #[Value.ref b] s) (F0 m pc ls [.int 1]) := by
  intro T hT X
  obtain ⟨fs, hret, hrun, hended, hW, hframe⟩ := X.leave (v := some (.int 1)) (hlocks := hlocks) (fun h => by rw [hr] at h; cases h)
  have hmeth' : T.vm.method? m = some meth := X.method'
  refine ⟨T.setFrames fs, ?_, .returned (some (.int 1)), hrun, hended, rfl, ⟨_, rfl⟩, hW, hframe⟩
  jvm_step X.here [X.here.top, hx, hb, hdg, hmeth', hr, ret, narrow_b1]
  (try refine ⟨rfl, ?_⟩); (try refine ⟨rfl, ?_⟩)
  first | (intro acts; rw [hret _ acts rfl rfl rfl]) | rw [hret _ _ rfl rfl rfl]
  exact Steps.refl _
/-- what holds at the law's entry: the machine, the code, the tables' words (any of lw_tbl by 'hts w (by decide +kernel)'), the script of L ints xs at the cell b, what the Statement gives of the start (any of its parts by flat_of_before) -/
def lw_At (p : Program) (s : State) (m : MethodId) (meth : Method) (c : Code) (b L : Nat) (xs : Nat → Int32) : Prop :=
  p.tables.exec = Jvm.exec ∧ c.code = code ∧ meth.sig.returnType = ret ∧ c.maxLocals = 4 ∧ s.vm.findClass R_law = some m.cls ∧ (∀ w ∈ lw_tbl, w.before #[Value.ref b] s = true) ∧ va_X b L xs s s.heap ∧ b < s.heap.size ∧ meth.locks = false ∧ (Jvm.Cond.and given_1 narrow_1).before #[Value.ref b] s = true

def ab_h0 (n : Nat) (xs : Nat → Int32) : ab_H := (16, fun k => ab_ro n xs k)
theorem ab_h0_wf (q : ab_Q) : ab_wf q (ab_h0 (qL q) (qx q)) := by
  refine ⟨Nat.le_refl _, fun k hk => ?_, fun k hk => rfl, fun k h1 h2 => ?_⟩
  · have hk : 16 ≤ k := hk
    show ab_ro _ _ k = none
    unfold ab_ro
    rw [if_neg (by omega), if_neg (by omega), if_neg (by omega)]
  · have h2 : k < 16 := h2
    omega
/-- the start of the law, out of a run of the pure machine -/
theorem whole_of {p : Program} {e : Env} {s : State} {m : MethodId} {below : List Frame} {meth : Method} {c : Code} (l : Launch) {b L : Nat} {xs : Nat → Int32} (hall : ∀ y pc i, cdT y pc = some i → ab_ok y pc i = true) (C0 : lw_At p s m meth c b L xs) (hrun : ∃ h', ab_F cdT mxT law_ix [.ref 0] (ab_h0 L xs) = some (some (.int 1), h') ∧ h'.1 ≤ 3000) : W p l e room_1 s m #[Value.ref b] below meth c s.heap [] 0 0 (lw_Z below #[Value.ref b] s) (entryFrame m ([Value.ref b] : List Value).toArray 4) := by
  obtain ⟨h', hF, hh'⟩ := hrun
  obtain ⟨f, hf⟩ := (ab_E_iff cdT mxT).mp hF
  obtain ⟨hx, hb, hr, hml, hown, hts, hX, hbl, hlocks, hgv⟩ := id C0
  have hA0 : ∀ a : Nat, a < s.heap.size → ¬ (fun a => s.heap.size ≤ a) a := fun a h => Nat.not_le.mpr h
  obtain ⟨c0, i0, hKn0⟩ := u_known (C := RX0) (T := TX0) (N := 1) (n := 1) hts cl_X0.1 (hts _ cl_X0.2.1)
  obtain ⟨c1, i1, hKn1⟩ := u_known (C := RX1) (T := TX1) (N := 3) (n := 3) hts cl_X1.1 (hts _ cl_X1.2.1)
  obtain ⟨c2, i2, hKn2⟩ := u_known (C := RX2) (T := TX2) (N := 8) (n := 8) hts cl_X2.1 (hts _ cl_X2.2.1)
  obtain ⟨c3, i3, hKn3⟩ := u_known (C := RX3) (T := TX3) (N := 5) (n := 5) hts cl_X3.1 (hts _ cl_X3.2.1)
  obtain ⟨c4, i4, hKn4⟩ := u_known (C := RX4) (T := TX4) (N := 5) (n := 5) hts cl_X4.1 (hts _ cl_X4.2.1)
  obtain ⟨c5, i5, hKn5⟩ := u_known (C := RX5) (T := TX5) (N := 3) (n := 3) hts cl_X5.1 (hts _ cl_X5.2.1)
  obtain ⟨c6, i6, hKn6⟩ := u_known (C := RX6) (T := TX6) (N := 4) (n := 4) hts cl_X6.1 (hts _ cl_X6.2.1)
  obtain ⟨c7, i7, hKn7⟩ := u_known (C := RX7) (T := TX7) (N := 1) (n := 1) hts cl_X7.1 (hts _ cl_X7.2.1)
  obtain ⟨c8, i8, hKn8⟩ := u_known (C := RX8) (T := TX8) (N := 4) (n := 4) hts cl_X8.1 (hts _ cl_X8.2.1)
  obtain ⟨c9, i9, hKn9⟩ := u_known (C := RX9) (T := TX9) (N := 4) (n := 4) hts cl_X9.1 (hts _ cl_X9.2.1)
  obtain ⟨c10, i10, hKn10⟩ := u_known (C := RX10) (T := TX10) (N := 14) (n := 14) hts cl_X10.1 (hts _ cl_X10.2.1)
  obtain ⟨c11, i11, hKn11⟩ := u_known (C := RX11) (T := TX11) (N := 23) (n := 23) hts cl_X11.1 (hts _ cl_X11.2.1)
  obtain ⟨dC, dI, hKc⟩ : ∃ (dC : Nat → ClassId) (dI : Nat → Nat → Nat), ∀ (k : Nat) (r : vw_C), vwCl[k]? = some r → u_Kn s r.1 r.2.1 r.2.2 (dC k) (dI k) := by
    refine ⟨fun k => match k with
      | 0 => c0
      | 1 => c1
      | 2 => c2
      | 3 => c3
      | 4 => c4
      | 5 => c5
      | 6 => c6
      | 7 => c7
      | 8 => c8
      | 9 => c9
      | 10 => c10
      | _ => c11, fun k => match k with
      | 0 => i0
      | 1 => i1
      | 2 => i2
      | 3 => i3
      | 4 => i4
      | 5 => i5
      | 6 => i6
      | 7 => i7
      | 8 => i8
      | 9 => i9
      | 10 => i10
      | _ => i11, ?_⟩
    intro k r hq
    match k, hq with
    | 0, hq => cases hq; exact hKn0
    | 1, hq => cases hq; exact hKn1
    | 2, hq => cases hq; exact hKn2
    | 3, hq => cases hq; exact hKn3
    | 4, hq => cases hq; exact hKn4
    | 5, hq => cases hq; exact hKn5
    | 6, hq => cases hq; exact hKn6
    | 7, hq => cases hq; exact hKn7
    | 8, hq => cases hq; exact hKn8
    | 9, hq => cases hq; exact hKn9
    | 10, hq => cases hq; exact hKn10
    | 11, hq => cases hq; exact hKn11
    | k + 12, hq => simp [vwCl] at hq
  obtain ⟨a0, k0, m0, f0, g0, j0⟩ := Cond.arrayClass_spec (hts (.arrayClass .int) lw_ac.1)
  obtain ⟨a1, k1, m1, f1, g1, j1⟩ := Cond.arrayClass_spec (hts (.arrayClass .byte) lw_ac.2.1)
  obtain ⟨a2, k2, m2, f2, g2, j2⟩ := Cond.arrayClass_spec (hts (.arrayClass .boolean) lw_ac.2.2)
  have hov : (Cond.arrayOver (.object "RopeLaw$Scene")).before #[Value.ref b] s = true := hts _ (by decide +kernel)
  obtain ⟨m3, a3, k3, f3, -, g3, j3, e3⟩ := Cond.arrayOver_spec hov
  have hfl := flat_of_before _ hgv
  have hm1 : ∀ i, i < 4 → ∀ j, j < st_len.getD i 0 → Cond.eq (.elem (.field (.string "RopeLaw$Text" (st_ix.getD i 0)) "java/lang/String" "value" "[B") (.int (Int32.ofNat j))) (.int ((st_byt.getD i []).getD j 0)) ∈ flatC (Jvm.Cond.and given_1 narrow_1) := by decide +kernel
  have hm2 : ∀ i, i < 4 → ∀ j, j < 4 → i < j → Cond.not (Cond.eq (.string "RopeLaw$Text" (st_ix.getD i 0)) (.string "RopeLaw$Text" (st_ix.getD j 0))) ∈ flatC (Jvm.Cond.and given_1 narrow_1) := by decide +kernel
  have hm3 : ∀ i, i < 4 → Cond.stringRef "RopeLaw$Text" (st_ix.getD i 0) (st_tx.getD i "") ∈ lw_tbl := by decide +kernel
  obtain ⟨adK, adV, hSt, hSr⟩ := vk_Sof (args := #[Value.ref b]) (s := s) (N := 4) (tm := fun i => .string "RopeLaw$Text" (st_ix.getD i 0)) (len := st_len) (byt := st_byt) (A := fun a => s.heap.size ≤ a) (by decide) (fun i hi => hfl _ (by revert i; decide +kernel)) (fun i hi => hfl _ (by revert i; decide +kernel)) (fun i hi => hfl _ (by revert i; decide +kernel)) (fun i hi => hfl _ (by revert i; decide +kernel)) (fun i hi j hj => hfl _ (hm1 i hi j hj)) (fun i j hi hj hij => by
    rcases Nat.lt_or_ge i j with h | h
    · exact Or.inl (hfl _ (hm2 i hi j hj h))
    · exact Or.inr (hfl _ (hm2 j hj i hi (by omega)))) hA0
  have hZ1 : va_Z "java/lang/String" "COMPACT_STRINGS" "Z" (.int 1) (fun a => s.heap.size ≤ a) s s.heap := va_Zof (hts _ (by decide +kernel)) (hts _ (by decide +kernel)) (va_eqi (hfl _ (by decide +kernel))) hA0
  have hZ2 : va_Zq "jdk/internal/util/Preconditions" "SIOOBE_FORMATTER" "Ljava/util/function/BiFunction;" (fun a => s.heap.size ≤ a) s s.heap := va_Zqof (hts _ (by decide +kernel)) (hts _ (by decide +kernel)) (hfl _ (by decide +kernel)) hA0
  obtain ⟨v9, hv9, hZ9⟩ : ∃ v9 : Value, (v9 = .null ∨ ∃ z, v9 = .ref z) ∧ va_Z "jdk/internal/util/Preconditions" "SIOOBE_FORMATTER" "Ljava/util/function/BiFunction;" v9 (fun a => s.heap.size ≤ a) s s.heap := by
    rcases hZ2 with h | ⟨t, h⟩
    · exact ⟨_, Or.inl rfl, h⟩
    · exact ⟨_, Or.inr ⟨t, rfl⟩, h⟩
  obtain ⟨q, hq⟩ : ∃ q : ab_Q, q = ((dC, dI), (fun t => match t with
    | 0 => a0
    | 1 => a1
    | 2 => a2
    | _ => a3), s.heap.size, b, adK, adV, v9, L, xs) := ⟨_, rfl⟩
  have hqv : qv9 q = v9 := by rw [hq]
  have hg9 : qv9 q = .null ∨ ∃ z, qv9 q = .ref z := by rw [hqv]; exact hv9
  have hg : ∀ k, (ab_g q k).category = 1 := fun k => by
    rcases ab_g_ref hg9 k with ⟨z, hz⟩ | hz
    · rw [hz]; rfl
    · rw [hz]; rfl
  have hB : qB q = s.heap.size := by rw [hq]
  have hK : ab_K q s := by
    subst hq
    refine ⟨⟨hKc, fun k r hr => ?_⟩, fun i hi => vk_R.of (hts _ (hm3 i hi)) (hSr i hi), va_AO.of hov, fun a i x h hm => va_Nw.of rfl (hts _ hm)⟩
    match k, hr with
    | 0, hr => cases hr; exact ⟨fun n z => ⟨fun k h => (by cases h), k0, g0, m0, j0⟩, f0⟩
    | 1, hr => cases hr; exact ⟨fun n z => ⟨fun k h => (by cases h), k1, g1, m1, j1⟩, f1⟩
    | 2, hr => cases hr; exact ⟨fun n z => ⟨fun k h => (by cases h), k2, g2, m2, j2⟩, f2⟩
    | 3, hr => cases hr; exact ⟨fun n z => ⟨fun k h => (by cases h), k3, g3, m3, j3⟩, k3, m3, g3, j3, f3, e3⟩
    | k + 4, hr => simp [ab_ty] at hr
  have hO : ab_O q s s.heap := by
    subst hq
    exact ⟨hX, hbl, hSt, hZ1, hZ9⟩
  have F : ab_Fr q 16 law_ix p room_1 s m #[Value.ref b] meth c := ⟨hx, hb, hml, hown, fun w hw => hts w (List.mem_filter.mp hw).1, fun h => absurd h (by decide), by decide, by decide, by decide, hK, hO, ⟨by rw [hB]; rfl, Nat.le_refl _⟩, hg⟩
  have hqL : qL q = L ∧ qx q = xs := by rw [hq]; exact ⟨rfl, rfl⟩
  have hC : ab_C q (ab_h0 L xs) s.heap := by
    refine ⟨by have := ab_h0_wf q; rw [hqL.1, hqL.2] at this; exact this, fun k r hr => ?_⟩
    have : (ab_w q (ab_h0 L xs)) = [] := rfl
    rw [this] at hr
    simp at hr
  have hS : va_S (ab_A q) s.heap s.heap [] := va_S.rf
  have hsim := ab_sim (l := l) hg9 hg hall f hf (p := p) (e := e) (R := room_1) (s := s) (m := m) (args := #[Value.ref b]) (below := below) (meth := meth) (c := c) (Q := lw_Z below #[Value.ref b] s) F (Nat.le_refl _) (by
    constructor
    · show h'.1 - 16 ≤ 600000
      omega
    · show 200 * (h'.1 - 16) ≤ 7302250
      omega) (fun H locs ls pc hC1 hS1 => by
    refine ⟨fun x hx1 hdc _ => ?_, (fun x hx1 => by cases hx1), (fun hx1 => by cases hx1)⟩
    cases hx1
    refine va_forget (fun z hz => ?_) (W.widen (k := 600000) (n := 7302250) (by omega) (by omega) (lw_ret hx hb hr hlocks hdc))
    have := hS1.2.2 z hz
    rw [← hB]
    exact this)
  rw [lg_entry_eq]
  have e1 : ([.ref 0] : List Value).map (ab_cv q) = [Value.ref b] := by rw [hq]; rfl
  have hlr := ab_lr_ent (q := q) hg (as := [.ref 0]) (n := 4) (by rw [e1]; exact Nat.le_of_ble_eq_true rfl)
  rw [e1] at hlr
  exact hsim s.heap [] _ hlr hC hS
