/-! rows: what makes cells, System.arraycopy, Math.min and max, Object's constructor, tableswitch -/
theorem ab_new_addr {q : ab_Q} {n0 x : Nat} {E : va_E} {s : State} {h : ab_H} {H1 : Heap} (hD : va_D (ab_A q) (ab_w q h ++ [(x, E)])) (hs : s.heap.size = qB q + (n0 - 16) ∧ 16 ≤ n0) (hn : n0 ≤ h.1) (hz : H1.size ≤ s.heap.size + (h.1 - n0 + 1)) (hx : x < H1.size) : x = qB q + (h.1 - 16) := by
  have hlen : (ab_w q h).length = h.1 - 16 := by simp [ab_w]
  have e1 : (ab_w q h ++ [(x, E)])[h.1 - 16]? = some (x, E) := by
    rw [List.getElem?_append_right (by omega), hlen, Nat.sub_self]
    rfl
  have hA : qB q ≤ x := hD.2 _ _ e1
  rcases Nat.lt_or_ge x (qB q + (h.1 - 16)) with hl | hl
  · exfalso
    have h16 : 16 ≤ n0 := hs.2
    have e2 := ab_w_at q h (k := x - qB q + 16) (by omega) (by omega)
    rw [show x - qB q + 16 - 16 = x - qB q by omega, show qB q + (x - qB q) = x by omega] at e2
    have e3 : (ab_w q h ++ [(x, E)])[x - qB q]? = some (x, ab_ce q (h.2 (x - qB q + 16))) := by
      rw [List.getElem?_append_left (by omega)]
      exact e2
    have := hD.1 _ _ _ _ e3 e1 rfl
    omega
  · omega
theorem ab_C_new {q : ab_Q} {h : ab_H} {H1 : Heap} {c : ab_Ce} (hw : ab_wf q h) (hc : ab_okc c) (hP : va_P (qD q) vwCl (ab_w q h ++ [(qB q + (h.1 - 16), ab_ce q (some c))]) H1) : ab_C q (ab_new h c) H1 := ⟨ab_wf_new hw hc, by rw [ab_w_new q h hw.1]; exact hP⟩
theorem ab_df_cv (q : ab_Q) (c : Nat) : (ab_df c).map (ab_cv q) = ab_df c := by
  unfold ab_df
  split <;> rfl
theorem lw_ac : Cond.arrayClass .int ∈ lw_tbl ∧ Cond.arrayClass .byte ∈ lw_tbl ∧ Cond.arrayClass .boolean ∈ lw_tbl := by decide +kernel
theorem lw_acp : Cond.native arraycopyName ∈ lw_tbl ∧ Cond.static arraycopyName ∈ lw_tbl ∧ Cond.initialized "java/lang/System" ∈ lw_tbl := by decide +kernel
theorem lw_mth : Cond.static Lib.Math.min.name ∈ lw_tbl ∧ Cond.static Lib.Math.max.name ∈ lw_tbl ∧ Cond.initialized "java/lang/Math" ∈ lw_tbl ∧ Cond.code Lib.Math.min.name Lib.Math.min.code 2 (some .int) ∈ lw_tbl ∧ Cond.code Lib.Math.max.name Lib.Math.max.code 2 (some .int) ∈ lw_tbl := by decide +kernel
theorem lw_obj : Cond.instanceMethod Lib.objectInit ∈ lw_tbl ∧ Cond.code Lib.objectInit ⟨#[0xb1]⟩ 1 none ∈ lw_tbl := by decide +kernel
theorem lw_g_mem {w : Cond} (h : w ∈ lw_tbl) (hg : goodWord w = true) : w ∈ lw_g := List.mem_filter.mpr ⟨h, hg⟩
theorem ab_nfw : nativeFrameWords "java/lang/System" "arraycopy" 5 + 11 ≤ 27 := by decide +kernel
section
variable {q : ab_Q} {n0 y : Nat} {p : Program} {l : Launch} {e : Env} {R : Room} {s : State} {m : MethodId} {args : Array Value} {below : List Frame} {meth : Method} {c : Code} {Q : State → Prop} {pc : Nat} {L L' : ab_L} {st st' : List Value} {h h' : ab_H} {v : Int32} {w : Int64} {nx a b t pc' : Nat} {is : List Nat}
theorem sx_new {k : Nat} (F : ab_Fr q n0 y p R s m args meth c) (ho : ab_ok y pc (.new k, v, w, nx, a, b, t, is) = true) (hd : ab_st1 (.new k, v, w, nx, a, b, t, is) L st h = some (.inl (pc', L', st', h'))) (hn : n0 ≤ h.1) (hrm : h'.1 - n0 ≤ R.cells ∧ 200 * (h'.1 - n0) ≤ R.slots) (kk : ab_W q n0 y p l e R s m args below meth c Q pc' L' st' h') : ab_W q n0 y p l e R s m args below meth c Q pc L st h := by
  intro H locs ls hl hC hS
  obtain ⟨hx, hb, hml, hown, hts, hnm, hfr, hlo, hlv, hK, hO, hBs, hg⟩ := F
  obtain ⟨hdc, hnx, h1⟩ := ab_ok_inv ho rfl
  dsimp only [ab_len] at hdc hnx
  simp only [ab_nx] at hnx
  subst hnx
  cases hd
  simp only [ab_ok1, ab_ia] at h1
  split at h1
  · rename_i r hr
    obtain ⟨hc12, hcw, hci, hcn, ⟨ty, hty, hdf⟩, -, hN⟩ := ab_cls_of hr
    have e0 : (ab_new h (.inr (a, ab_df a))).1 = h.1 + 1 := rfl
    simp only [ab_ia, e0] at hrm
    have hA : ∀ z : Nat, s.heap.size ≤ z → ab_A q z := fun z hz => by
      have := hBs.1
      show qB q ≤ z
      omega
    refine va_new (C := r.1) (T := r.2.1) (N := r.2.2) (fs := ab_df a) hx hb hts (u_ws_good hcw) ty hty hown (hts _ (lw_g_of (of_decide_eq_true h1) rfl)) (hts _ (lw_g_mem hci rfl)) (hts _ (lw_g_mem hcn rfl)) hK.1 hC.2 (ab_w_D q h) hS hA hr hdf (by omega) (by omega) hdc (fun x H1 hP1 hD1 hS1 => ?_)
    refine W.size (fun hz => ?_)
    have hxl : x < H1.size := (hP1 (ab_w q h).length (x, .inr (a, ab_df a)) (by rw [List.getElem?_append_right (Nat.le_refl _), Nat.sub_self]; rfl)).lt
    have hxe := ab_new_addr hD1 hBs hn hz hxl
    subst hxe
    refine W.widen (k := h.1 + 1 - n0) (n := 200 * (h.1 + 1 - n0)) (by omega) (by omega) ?_
    have e3 : ab_ce q (some (.inr (a, ab_df a))) = .inr (a, ab_df a) := by
      simp only [ab_ce]
      rw [if_neg (by omega), ab_df_cv]
    have := kk H1 locs ls hl (ab_C_new hC.1 (show ab_okc (.inr (a, ab_df a)) from Or.inr hc12) (by rw [e3]; exact hP1)) hS1
    have hg1 : ab_cv q (.ref h.1) = .ref (qB q + (h.1 - 16)) := ab_g_real q (by have := hBs.2; omega)
    simp only [List.map_cons, hg1] at this
    exact this
  · cases h1

theorem sx_newarray {k : ArrayType} (F : ab_Fr q n0 y p R s m args meth c) (ho : ab_ok y pc (.newarray k, v, w, nx, a, b, t, is) = true) (hd : ab_st1 (.newarray k, v, w, nx, a, b, t, is) L st h = some (.inl (pc', L', st', h'))) (hn : n0 ≤ h.1) (hrm : h'.1 - n0 ≤ R.cells ∧ 200 * (h'.1 - n0) ≤ R.slots) (kk : ab_W q n0 y p l e R s m args below meth c Q pc' L' st' h') : ab_W q n0 y p l e R s m args below meth c Q pc L st h := by
  intro H locs ls hl hC hS
  obtain ⟨hx, hb, hml, hown, hts, hnm, hfr, hlo, hlv, hK, hO, hBs, hg⟩ := F
  obtain ⟨hdc, hnx, h1⟩ := ab_ok_inv ho rfl
  dsimp only [ab_len] at hdc hnx
  simp only [ab_nx] at hnx
  subst hnx
  obtain ⟨n, r1, rfl, hd1⟩ := ab_pi_inv hd
  rcases ab_ite_inv hd1 with ⟨hc, hd2⟩ | ⟨hc, hd2⟩
  · cases hd2
    have e0 : (ab_new h (.inl (t, n.toNatClampNeg, fun _ => 0))).1 = h.1 + 1 := rfl
    simp only [ab_it, e0] at hrm
    have hA : ∀ z : Nat, s.heap.size ≤ z → ab_A q z := fun z hz => by
      have := hBs.1
      show qB q ≤ z
      omega
    have hn0 : ¬ n < 0 := Int32.not_lt.mpr hc.1
    have fin : ∀ (ty : FieldType), t < 3 → newarray.typeOf k = ty → (Cond.arrayClass ty).before args s = true → defaultValue ty = .int 0 → n.toNatClampNeg * componentBytes ty ≤ 536870912 → (∃ t0 : Nat, (ab_ty q)[t0]? = some (qA q t, ty)) → (∀ (U : State) (c1 c2 : ClassId), va_RA U c1 ty → va_RA U c2 ty → c1 = c2) → W p l e R s m args below meth c H locs (h.1 - n0) (200 * (h.1 - n0)) Q (F0 m pc ls ((Value.int n :: r1).map (ab_cv q))) := by
      intro ty ht3 hty harr hdv hbytes htt hinj
      refine va_newa (a0 := (n.toNatClampNeg, .inl (fun _ => 0))) (N' := n.toNatClampNeg) hx hb (by rw [hty]; exact harr) hty hK.1 hC.2 (ab_w_D q h) hS hA (fun cA => by rw [hdv]; rfl) hn0 rfl hbytes (by omega) (by omega) hdc (fun x cA H1 hK1 hP1 hD1 hS1 => ?_)
      refine W.size (fun hz => ?_)
      have hxl : x < H1.size := (hP1 (ab_w q h).length (x, .inl (cA, n.toNatClampNeg, .inl (fun _ => 0))) (by rw [List.getElem?_append_right (Nat.le_refl _), Nat.sub_self]; rfl)).lt
      have hxe := ab_new_addr hD1 hBs hn hz hxl
      subst hxe
      have hcA : cA = qA q t := by
        obtain ⟨t0, ht0⟩ := htt
        exact hinj s cA (qA q t) (hK1.2 4 (cA, ty) rfl).2 (hK.1.2 t0 _ ht0).2
      subst hcA
      refine W.widen (k := h.1 + 1 - n0) (n := 200 * (h.1 + 1 - n0)) (by omega) (by omega) ?_
      have := kk H1 locs ls hl (ab_C_new hC.1 (by simp only [ab_okc]; exact ht3) hP1) hS1
      have hg1 : ab_cv q (.ref h.1) = .ref (qB q + (h.1 - 16)) := ab_g_real q (by have := hBs.2; omega)
      simp only [List.map_cons, hg1] at this
      exact this
    rcases of_decide_eq_true h1 with ⟨h2, h3⟩ | ⟨h2, h3⟩ | ⟨h2, h3⟩
    · have h3 : t = 0 := h3
      subst h3
      exact fin .int (by omega) (by rw [h2]; rfl) (hts _ (lw_g_mem lw_ac.1 rfl)) rfl (by rw [show componentBytes .int = 4 from rfl]; omega) ⟨0, rfl⟩ (fun U c1 c2 a1 a2 => Option.some.inj (a1.symm.trans a2))
    · have h3 : t = 1 := h3
      subst h3
      exact fin .byte (by omega) (by rw [h2]; rfl) (hts _ (lw_g_mem lw_ac.2.1 rfl)) rfl (by rw [show componentBytes .byte = 1 from rfl]; omega) ⟨1, rfl⟩ (fun U c1 c2 a1 a2 => Option.some.inj (a1.symm.trans a2))
    · have h3 : t = 2 := h3
      subst h3
      exact fin .boolean (by omega) (by rw [h2]; rfl) (hts _ (lw_g_mem lw_ac.2.2 rfl)) rfl (by rw [show componentBytes .boolean = 1 from rfl]; omega) ⟨2, rfl⟩ (fun U c1 c2 a1 a2 => Option.some.inj (a1.symm.trans a2))
  · cases hd2

theorem sx_anewarray {k : Nat} (F : ab_Fr q n0 y p R s m args meth c) (ho : ab_ok y pc (.anewarray k, v, w, nx, a, b, t, is) = true) (hd : ab_st1 (.anewarray k, v, w, nx, a, b, t, is) L st h = some (.inl (pc', L', st', h'))) (hn : n0 ≤ h.1) (hrm : h'.1 - n0 ≤ R.cells ∧ 200 * (h'.1 - n0) ≤ R.slots) (kk : ab_W q n0 y p l e R s m args below meth c Q pc' L' st' h') : ab_W q n0 y p l e R s m args below meth c Q pc L st h := by
  intro H locs ls hl hC hS
  obtain ⟨hx, hb, hml, hown, hts, hnm, hfr, hlo, hlv, hK, hO, hBs, hg⟩ := F
  obtain ⟨hdc, hnx, h1⟩ := ab_ok_inv ho rfl
  dsimp only [ab_len] at hdc hnx
  simp only [ab_nx] at hnx
  subst hnx
  obtain ⟨n, r1, rfl, hd1⟩ := ab_pi_inv hd
  rcases ab_ite_inv hd1 with ⟨hc, hd2⟩ | ⟨hc, hd2⟩
  · cases hd2
    have e0 : (ab_new h (.inr (30, List.replicate n.toNatClampNeg .null))).1 = h.1 + 1 := rfl
    simp only [e0] at hrm
    have hA : ∀ z : Nat, s.heap.size ≤ z → ab_A q z := fun z hz => by
      have := hBs.1
      show qB q ≤ z
      omega
    have hn0 : ¬ n < 0 := Int32.not_lt.mpr hc.1
    refine va_newq (C := "RopeLaw$Scene") (N' := n.toNatClampNeg) hx hb hown (hts _ (lw_g_of (of_decide_eq_true h1) rfl)) hK.2.2.1 hK.1 hC.2 (ab_w_D q h) hS hA hn0 rfl (by omega) (by omega) (by omega) hdc (fun x cA H1 hK1 hP1 hD1 hS1 => ?_)
    refine W.size (fun hz => ?_)
    have hxl : x < H1.size := (hP1 (ab_w q h).length (x, .inl (cA, n.toNatClampNeg, .inr (.inr (.inr (.inr (fun _ => none)))))) (by rw [List.getElem?_append_right (Nat.le_refl _), Nat.sub_self]; rfl)).lt
    have hxe := ab_new_addr hD1 hBs hn hz hxl
    subst hxe
    have hcA : cA = qA q 3 := by
      obtain ⟨_, _, _, _, _, a1⟩ := (hK1.2 4 (cA, .object "RopeLaw$Scene") rfl).2
      obtain ⟨_, _, _, _, _, a2⟩ := (hK.1.2 3 (qA q 3, .object "RopeLaw$Scene") rfl).2
      exact Option.some.inj (a1.symm.trans a2)
    subst hcA
    refine W.widen (k := h.1 + 1 - n0) (n := 200 * (h.1 + 1 - n0)) (by omega) (by omega) ?_
    have e3 : ab_ce q (some (.inr (30, List.replicate n.toNatClampNeg .null))) = .inl (qA q 3, n.toNatClampNeg, .inr (.inr (.inr (.inr (fun _ => none))))) := by
      have e4 : (fun j => ab_rfo q ((List.replicate n.toNatClampNeg Value.null).getD j .null)) = fun _ => none := by
        funext j
        have : (List.replicate n.toNatClampNeg Value.null).getD j .null = .null := by
          rw [List.getD_eq_getElem?_getD, List.getElem?_replicate]
          split <;> rfl
        rw [this]
        rfl
      simp only [ab_ce, if_true, List.length_replicate, e4]
    have := kk H1 locs ls hl (ab_C_new hC.1 (by simp [ab_okc]) (by rw [e3]; exact hP1)) hS1
    have hg1 : ab_cv q (.ref h.1) = .ref (qB q + (h.1 - 16)) := ab_g_real q (by have := hBs.2; omega)
    simp only [List.map_cons, hg1] at this
    exact this
  · cases hd2

theorem sx_objinit (hg9 : qv9 q = .null ∨ ∃ z, qv9 q = .ref z) {k : Nat} (ht : t = 9) (F : ab_Fr q n0 y p R s m args meth c) (ho : ab_ok y pc (.invokespecial k, v, w, nx, a, b, t, is) = true) (hd : ab_st1 (.invokespecial k, v, w, nx, a, b, t, is) L st h = some (.inl (pc', L', st', h'))) (kk : ab_W q n0 y p l e R s m args below meth c Q pc' L' st' h') : ab_W q n0 y p l e R s m args below meth c Q pc L st h := by
  intro H locs ls hl hC hS
  obtain ⟨hx, hb, hml, hown, hts, hnm, hfr, hlo, hlv, hK, hO, hBs, hg⟩ := F
  obtain ⟨hdc, hnx, h1⟩ := ab_ok_inv ho rfl
  dsimp only [ab_len] at hdc hnx
  simp only [ab_nx] at hnx
  subst hnx
  have hd0 : ab_pr (R := ab_D) st (fun r st => ab_few st (if 16 ≤ r then some (.inl (pc + 3, L, st, h)) else none)) = some (.inl (pc', L', st', h')) := by
    have := hd
    simp only [ab_st1, ab_stp, ab_it, ht] at this
    exact this
  obtain ⟨o, r1, rfl, hd1⟩ := ab_pr_iv hd0
  obtain ⟨hf, hd2⟩ := ab_few_inv hd1
  have hcat := ab_cat_map hg r1
  rcases ab_ite_inv hd2 with ⟨h16, hd3⟩ | ⟨h16, hd3⟩
  · cases hd3
    simp only [ab_ok1, ab_it, ht, if_true] at h1
    have hq := kk H locs ls hl hC hS
    simp only [List.map_cons, ab_cv]
    rw [ab_g_real q h16]
    exact W.objInit hx hb hown (hts _ (lw_g_of (of_decide_eq_true h1) rfl)) (hts _ (lw_g_mem lw_obj.1 rfl)) (hts _ (lw_g_mem lw_obj.2 rfl)) rfl (by rw [hml]; exact hl.2.1) rfl hdc (by omega) (by
      show 2 * 0 + _ + 12 ≤ R.locals
      omega) hq
  · cases hd3

theorem sx_arraycopy {k : Nat} (ht : t = 8) (F : ab_Fr q n0 y p R s m args meth c) (ho : ab_ok y pc (.invokestatic k, v, w, nx, a, b, t, is) = true) (hd : ab_st1 (.invokestatic k, v, w, nx, a, b, t, is) L st h = some (.inl (pc', L', st', h'))) (kk : ab_W q n0 y p l e R s m args below meth c Q pc' L' st' h') : ab_W q n0 y p l e R s m args below meth c Q pc L st h := by
  intro H locs ls hl hC hS
  obtain ⟨hx, hb, hml, hown, hts, hnm, hfr, hlo, hlv, hK, hO, hBs, hg⟩ := F
  obtain ⟨hdc, hnx, h1⟩ := ab_ok_inv ho rfl
  dsimp only [ab_len] at hdc hnx
  simp only [ab_nx] at hnx
  subst hnx
  have hd0 : (ab_pi (R := ab_D) st fun n st => ab_pi st fun dp st => ab_pr st fun d st => ab_pi st fun sp st => ab_pr st fun a st => ab_few st (ab_acp h a sp d dp n fun h => some (.inl (pc + 3, L, st, h)))) = some (.inl (pc', L', st', h')) := by
    have := hd
    simp only [ab_st1, ab_stp, ab_it, ht] at this
    exact this
  obtain ⟨n, r1, rfl, hd1⟩ := ab_pi_inv hd0
  obtain ⟨dp, r2, rfl, hd2⟩ := ab_pi_inv hd1
  obtain ⟨d, r3, rfl, hd3⟩ := ab_pr_iv hd2
  obtain ⟨sp, r4, rfl, hd4⟩ := ab_pi_inv hd3
  obtain ⟨o, r5, rfl, hd5⟩ := ab_pr_iv hd4
  obtain ⟨hf, hd6⟩ := ab_few_inv hd5
  obtain ⟨m0, f, m1, f1, hk0, hk1, g1, g2, g3, g4, g5, hd7⟩ := ab_acp_inv hd6
  have hcat := ab_cat_map hg r5
  cases hd7
  simp only [ab_ok1, ab_it, ht, if_true] at h1
  obtain ⟨hr0, hgk0, hat0⟩ := ab_at_arr hC.1 hk0 (by omega)
  obtain ⟨hr1, hgk1, hat1⟩ := ab_at_arr hC.1 hk1 (by omega)
  simp only [List.map_cons, ab_cv]
  rw [hgk0, hgk1]
  have hnf := ab_nfw
  refine va_copyi hx hb (by rw [hml]; exact hl.2.1.symm) hown (hts _ (lw_g_of (of_decide_eq_true h1) rfl)) (hts _ (lw_g_mem lw_acp.1 rfl)) (hts _ (lw_g_mem lw_acp.2.1 rfl)) (hts _ (lw_g_mem lw_acp.2.2 rfl)) hK.1 hC.2 (ab_w_D q h) hS (o - 16) (d - 16) 0 0 hat0 hat1 rfl rfl rfl (Int32.not_lt.mpr g1) (Int32.not_lt.mpr g2) (Int32.not_lt.mpr g3) g4 g5 (fun _ _ => rfl) (by omega) (by omega) hdc (fun H1 locs1 hP1 hD1 hS1 => ?_)
  exact kk H1 locs1 ls hl ⟨ab_wf_set hC.1 hr1.1 hr1.2 (by simp [ab_okc]), by rw [ab_w_set q h hr1.1 hr1.2]; exact hP1⟩ hS1

theorem sx_mmin {k : Nat} (ht : t = 10) (F : ab_Fr q n0 y p R s m args meth c) (ho : ab_ok y pc (.invokestatic k, v, w, nx, a, b, t, is) = true) (hd : ab_st1 (.invokestatic k, v, w, nx, a, b, t, is) L st h = some (.inl (pc', L', st', h'))) (hrm : h.1 - n0 ≤ R.cells ∧ 200 * (h.1 - n0) ≤ R.slots) (kk : ab_W q n0 y p l e R s m args below meth c Q pc' L' st' h') : ab_W q n0 y p l e R s m args below meth c Q pc L st h := by
  intro H locs ls hl hC hS
  obtain ⟨hx, hb, hml, hown, hts, hnm, hfr, hlo, hlv, hK, hO, hBs, hg⟩ := F
  obtain ⟨hdc, hnx, h1⟩ := ab_ok_inv ho rfl
  dsimp only [ab_len] at hdc hnx
  simp only [ab_nx] at hnx
  subst hnx
  have hd0 : (ab_pi (R := ab_D) st fun y1 st => ab_pi st fun x1 st => ab_few st (some (.inl (pc + 3, L, (.int (if y1 < x1 then y1 else x1) :: st), h)))) = some (.inl (pc', L', st', h')) := by
    have := hd
    simp only [ab_st1, ab_stp, ab_it, ht] at this
    exact this
  obtain ⟨y1, r1, rfl, hd1⟩ := ab_pi_inv hd0
  obtain ⟨x1, r2, rfl, hd2⟩ := ab_pi_inv hd1
  obtain ⟨hf, hd3⟩ := ab_few_inv hd2
  have hcat := ab_cat_map hg r2
  cases hd3
  have h2 : lw_tbl[plT y pc]? = some (Cond.methodLink (nmT y).cls k Lib.Math.min.name) := by
    simp only [ab_ok1, ab_it, ht] at h1
    exact of_decide_eq_true h1
  exact va_mmin hx hb (by rw [hml]; exact hl.2.1.symm) hown (hts _ (lw_g_of h2 rfl)) (hts _ (lw_g_mem lw_mth.1 rfl)) (hts _ (lw_g_mem lw_mth.2.2.1 rfl)) (hts _ (lw_g_mem lw_mth.2.2.2.1 rfl)) (by omega) (by omega) (by omega) (by omega) hdc (kk H locs ls hl hC hS)

theorem sx_mmax {k : Nat} (ht : t = 11) (F : ab_Fr q n0 y p R s m args meth c) (ho : ab_ok y pc (.invokestatic k, v, w, nx, a, b, t, is) = true) (hd : ab_st1 (.invokestatic k, v, w, nx, a, b, t, is) L st h = some (.inl (pc', L', st', h'))) (hrm : h.1 - n0 ≤ R.cells ∧ 200 * (h.1 - n0) ≤ R.slots) (kk : ab_W q n0 y p l e R s m args below meth c Q pc' L' st' h') : ab_W q n0 y p l e R s m args below meth c Q pc L st h := by
  intro H locs ls hl hC hS
  obtain ⟨hx, hb, hml, hown, hts, hnm, hfr, hlo, hlv, hK, hO, hBs, hg⟩ := F
  obtain ⟨hdc, hnx, h1⟩ := ab_ok_inv ho rfl
  dsimp only [ab_len] at hdc hnx
  simp only [ab_nx] at hnx
  subst hnx
  have hd0 : (ab_pi (R := ab_D) st fun y1 st => ab_pi st fun x1 st => ab_few st (some (.inl (pc + 3, L, (.int (if x1 < y1 then y1 else x1) :: st), h)))) = some (.inl (pc', L', st', h')) := by
    have := hd
    simp only [ab_st1, ab_stp, ab_it, ht] at this
    exact this
  obtain ⟨y1, r1, rfl, hd1⟩ := ab_pi_inv hd0
  obtain ⟨x1, r2, rfl, hd2⟩ := ab_pi_inv hd1
  obtain ⟨hf, hd3⟩ := ab_few_inv hd2
  have hcat := ab_cat_map hg r2
  cases hd3
  have h2 : lw_tbl[plT y pc]? = some (Cond.methodLink (nmT y).cls k Lib.Math.max.name) := by
    simp only [ab_ok1, ab_it, ht] at h1
    exact of_decide_eq_true h1
  exact va_mmax hx hb (by rw [hml]; exact hl.2.1.symm) hown (hts _ (lw_g_of h2 rfl)) (hts _ (lw_g_mem lw_mth.2.1 rfl)) (hts _ (lw_g_mem lw_mth.2.2.1 rfl)) (hts _ (lw_g_mem lw_mth.2.2.2.2 rfl)) (by omega) (by omega) (by omega) (by omega) hdc (kk H locs ls hl hC hS)

end
