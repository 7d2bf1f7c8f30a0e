/-! the classes, and rows of the instructions that touch the heap -/
def ab_cls (c : Nat) (r : vw_C) : Prop := (∀ w ∈ u_ws r.1 r.2.1 r.2.2, w ∈ lw_tbl) ∧ Cond.instantiable r.1 r.2.2 ∈ lw_tbl ∧ Cond.initialized r.1 ∈ lw_tbl ∧ (∃ ty : Nat → FieldType, (∀ k, k < r.2.2 → parseFieldDescriptor (r.2.1 k).2.2.1 = some (ty k)) ∧ ∀ j, j < r.2.2 → defaultValue (ty j) = vp_V (ab_df c) j) ∧ (∀ a, a < r.2.2 → ∀ b, b < r.2.2 → a ≠ b → (r.2.1 a).2.1 ≠ (r.2.1 b).2.1) ∧ r.2.2 ≤ 200
theorem u_ws_good {C : String} {T : u_T} {N : Nat} (h : ∀ w ∈ u_ws C T N, w ∈ lw_tbl) : ∀ w ∈ u_ws C T N, w ∈ lw_g := fun w hw => by
  refine List.mem_filter.mpr ⟨h w hw, ?_⟩
  obtain ⟨k, -, rfl⟩ := List.mem_map.mp hw
  unfold u_lay
  split <;> rfl
set_option maxRecDepth 100000 in
theorem cl_X0 : ab_cls 0 (RX0, TX0, 1) := ⟨by decide +kernel, by decide +kernel, by decide +kernel, ⟨tyX0, tyX0_ok, by decide +kernel⟩, nmX0, by decide⟩
set_option maxRecDepth 100000 in
theorem cl_X1 : ab_cls 1 (RX1, TX1, 3) := ⟨by decide +kernel, by decide +kernel, by decide +kernel, ⟨tyX1, tyX1_ok, by decide +kernel⟩, nmX1, by decide⟩
set_option maxRecDepth 100000 in
theorem cl_X2 : ab_cls 2 (RX2, TX2, 8) := ⟨by decide +kernel, by decide +kernel, by decide +kernel, ⟨tyX2, tyX2_ok, by decide +kernel⟩, nmX2, by decide⟩
set_option maxRecDepth 100000 in
theorem cl_X3 : ab_cls 3 (RX3, TX3, 5) := ⟨by decide +kernel, by decide +kernel, by decide +kernel, ⟨tyX3, tyX3_ok, by decide +kernel⟩, nmX3, by decide⟩
set_option maxRecDepth 100000 in
theorem cl_X4 : ab_cls 4 (RX4, TX4, 5) := ⟨by decide +kernel, by decide +kernel, by decide +kernel, ⟨tyX4, tyX4_ok, by decide +kernel⟩, nmX4, by decide⟩
set_option maxRecDepth 100000 in
theorem cl_X5 : ab_cls 5 (RX5, TX5, 3) := ⟨by decide +kernel, by decide +kernel, by decide +kernel, ⟨tyX5, tyX5_ok, by decide +kernel⟩, nmX5, by decide⟩
set_option maxRecDepth 100000 in
theorem cl_X6 : ab_cls 6 (RX6, TX6, 4) := ⟨by decide +kernel, by decide +kernel, by decide +kernel, ⟨tyX6, tyX6_ok, by decide +kernel⟩, nmX6, by decide⟩
set_option maxRecDepth 100000 in
theorem cl_X7 : ab_cls 7 (RX7, TX7, 1) := ⟨by decide +kernel, by decide +kernel, by decide +kernel, ⟨tyX7, tyX7_ok, by decide +kernel⟩, nmX7, by decide⟩
set_option maxRecDepth 100000 in
theorem cl_X8 : ab_cls 8 (RX8, TX8, 4) := ⟨by decide +kernel, by decide +kernel, by decide +kernel, ⟨tyX8, tyX8_ok, by decide +kernel⟩, nmX8, by decide⟩
set_option maxRecDepth 100000 in
theorem cl_X9 : ab_cls 9 (RX9, TX9, 4) := ⟨by decide +kernel, by decide +kernel, by decide +kernel, ⟨tyX9, tyX9_ok, by decide +kernel⟩, nmX9, by decide⟩
set_option maxRecDepth 100000 in
theorem cl_X10 : ab_cls 10 (RX10, TX10, 14) := ⟨by decide +kernel, by decide +kernel, by decide +kernel, ⟨tyX10, tyX10_ok, by decide +kernel⟩, nmX10, by decide⟩
set_option maxRecDepth 100000 in
theorem cl_X11 : ab_cls 11 (RX11, TX11, 23) := ⟨by decide +kernel, by decide +kernel, by decide +kernel, ⟨tyX11, tyX11_ok, by decide +kernel⟩, nmX11, by decide⟩
theorem ab_cls_of {c : Nat} {r : vw_C} (h : vwCl[c]? = some r) : c < 12 ∧ ab_cls c r := by
  match c, h with
  | 0, h => cases h; exact ⟨by decide, cl_X0⟩
  | 1, h => cases h; exact ⟨by decide, cl_X1⟩
  | 2, h => cases h; exact ⟨by decide, cl_X2⟩
  | 3, h => cases h; exact ⟨by decide, cl_X3⟩
  | 4, h => cases h; exact ⟨by decide, cl_X4⟩
  | 5, h => cases h; exact ⟨by decide, cl_X5⟩
  | 6, h => cases h; exact ⟨by decide, cl_X6⟩
  | 7, h => cases h; exact ⟨by decide, cl_X7⟩
  | 8, h => cases h; exact ⟨by decide, cl_X8⟩
  | 9, h => cases h; exact ⟨by decide, cl_X9⟩
  | 10, h => cases h; exact ⟨by decide, cl_X10⟩
  | 11, h => cases h; exact ⟨by decide, cl_X11⟩
  | c + 12, h => simp [vwCl] at h
theorem W.size {p : Program} {l : Launch} {e : Env} {R : Room} {s : State} {m : MethodId} {args : Array Value} {below : List Frame} {meth : Method} {c : Code} {H : Heap} {locs : List Loc} {cells slots : Nat} {Q : State → Prop} {g : JFrame} (kk : H.size ≤ s.heap.size + cells → W p l e R s m args below meth c H locs cells slots Q g) : W p l e R s m args below meth c H locs cells slots Q g := fun T hT X => kk (by
  have := X.same.2.2.1
  rw [← hT]
  exact this) T hT X
theorem ab_C_size {q : ab_Q} {n0 : Nat} {s : State} {h : ab_H} {H : Heap} (hC : ab_C q h H) (hs : s.heap.size = qB q + (n0 - 16) ∧ 16 ≤ n0) (hn : n0 ≤ h.1) (hz : H.size ≤ s.heap.size + (h.1 - n0)) (hl : s.heap.size ≤ H.size) : H.size = qB q + (h.1 - 16) := by
  obtain ⟨hs, h16⟩ := hs
  rcases Nat.eq_or_lt_of_le hn with e | e
  · omega
  · have h1 := ab_w_at q h (k := h.1 - 1) (by omega) (by omega)
    have h2 := (hC.2 _ _ h1).lt
    simp only at h2
    omega
theorem ab_at_arr {q : ab_Q} {h : ab_H} (hw : ab_wf q h) {k t n : Nat} {f : Nat → Int32} (hk : ab_get h k = some (.inl (t, n, f))) (ht : t < 3) : (16 ≤ k ∧ k < h.1) ∧ ab_g q k = .ref (qB q + (k - 16)) ∧ (ab_w q h)[k - 16]? = some (qB q + (k - 16), .inl (qA q t, n, .inl f)) := by
  have h1 := ab_wf_real hw hk (fun n xs j e => by
    unfold ab_ro at e
    split at e
    · cases e; omega
    · split at e
      · cases e
      · split at e
        · cases e; omega
        · cases e)
  refine ⟨h1, ab_g_real q h1.1, ?_⟩
  have h2 := ab_w_at q h h1.1 h1.2
  have hk : h.2 k = _ := hk
  rw [hk] at h2
  exact h2
theorem ab_at_obj {q : ab_Q} {h : ab_H} (hw : ab_wf q h) {k c : Nat} {fs : List Value} (hk : ab_get h k = some (.inr (c, fs))) (hc : c < 12) : (16 ≤ k ∧ k < h.1) ∧ ab_g q k = .ref (qB q + (k - 16)) ∧ (ab_w q h)[k - 16]? = some (qB q + (k - 16), .inr (c, fs.map (ab_cv q))) := by
  have h1 := ab_wf_real hw hk (fun n xs j e => by
    unfold ab_ro at e
    split at e
    · cases e
    · split at e
      · cases e; omega
      · split at e
        · cases e
        · cases e)
  refine ⟨h1, ab_g_real q h1.1, ?_⟩
  have h2 := ab_w_at q h h1.1 h1.2
  have hk : h.2 k = _ := hk
  rw [hk] at h2
  simp only [ab_ce] at h2
  rw [if_neg (by omega)] at h2
  exact h2
theorem ab_at_row {q : ab_Q} {h : ab_H} (hw : ab_wf q h) {k : Nat} {fs : List Value} (hk : ab_get h k = some (.inr (30, fs))) : (16 ≤ k ∧ k < h.1) ∧ ab_g q k = .ref (qB q + (k - 16)) ∧ (ab_w q h)[k - 16]? = some (qB q + (k - 16), .inl (qA q 3, fs.length, .inr (.inr (.inr (.inr (fun j => ab_rfo q (fs.getD j .null))))))) := by
  have h1 := ab_wf_real hw hk (fun n xs j e => by
    unfold ab_ro at e
    split at e
    · cases e
    · split at e
      · cases e
      · split at e
        · cases e
        · cases e)
  refine ⟨h1, ab_g_real q h1.1, ?_⟩
  have h2 := ab_w_at q h h1.1 h1.2
  have hk : h.2 k = _ := hk
  rw [hk] at h2
  exact h2
theorem ab_at_str {q : ab_Q} {h : ab_H} (hw : ab_wf q h) {k : Nat} {fs : List Value} (hk : ab_get h k = some (.inr (20, fs))) : ∃ i, i < 4 ∧ k = i + 1 ∧ ab_g q k = .ref (qK q i) ∧ fs = [.ref (i + 5), .int 0] := by
  obtain ⟨h1, h2⟩ := ab_wf_ro hw hk (by simp [ab_okc])
  unfold ab_ro at h2
  split at h2
  · cases h2
  · split at h2
    · cases h2
      refine ⟨k - 1, by omega, by omega, ?_, by rw [show k - 1 + 5 = k + 4 by omega]⟩
      unfold ab_g
      rw [if_neg (by omega), if_neg (by omega), if_pos (by omega)]
    · split at h2
      · cases h2
      · cases h2
theorem ab_pr_iv {R : Type} {r : R} {st : List Value} {K : Nat → List Value → Option R} (e : ab_pr st K = some r) : ∃ (x : Nat) (st' : List Value), st = .ref x :: st' ∧ K x st' = some r := ab_pr_inv e
theorem ab_vin {i : Int32} {n : Nat} (h1 : 0 ≤ i) (h2 : i.toNatClampNeg < n) : vp_in i n := by
  intro h
  rcases h with h | h
  · exact absurd h (Int32.not_lt.mpr h1)
  · omega
theorem ab_cat_map {q : ab_Q} (hg : ∀ k, (ab_g q k).category = 1) : ∀ st : List Value, ((st.map (ab_cv q)).map fun v => v.category).sum = ab_cat st
  | [] => rfl
  | v :: st => by
    have h1 : (ab_cv q v).category = v.category := by
      cases v with
      | ref k => exact hg k
      | _ => rfl
    simp only [List.map_cons, List.sum_cons, ab_cat, ab_cat_map hg st, h1]
section
variable {q : ab_Q} {n0 y : Nat} {p : Program} {l : Launch} {e : Env} {R : Room} {s : State} {m : MethodId} {args : Array Value} {below : List Frame} {meth : Method} {c : Code} {Q : State → Prop} {pc : Nat} {L L' : ab_L} {st st' : List Value} {h h' : ab_H} {v : Int32} {w : Int64} {nx a b t pc' : Nat} {is : List Nat}
theorem sx_iaload (F : ab_Fr q n0 y p R s m args meth c) (ho : ab_ok y pc (.iaload, v, w, nx, a, b, t, is) = true) (hd : ab_st1 (.iaload, v, w, nx, a, b, t, is) L st h = some (.inl (pc', L', st', h'))) (kk : ab_W q n0 y p l e R s m args below meth c Q pc' L' st' h') : ab_W q n0 y p l e R s m args below meth c Q pc L st h := by
  intro H locs ls hl hC hS
  obtain ⟨hx, hb, hml, hown, hts, hnm, hfr, hlo, hlv, hK, hO, hBs, hg⟩ := F
  obtain ⟨hdc, hnx, h1⟩ := ab_ok_inv ho rfl
  dsimp only [ab_len] at hdc hnx
  simp only [ab_nx] at hnx
  subst hnx
  obtain ⟨i, r1, rfl, hd1⟩ := ab_pi_inv hd
  obtain ⟨k, r2, rfl, hd2⟩ := ab_pr_iv hd1
  obtain ⟨u, n, f, hk, hu, hi1, hi2, hd3⟩ := ab_iald_inv hd2
  cases hd3
  have hq := kk H locs ls hl hC hS
  simp only [List.map_cons, ab_cv]
  rcases hu with rfl | rfl
  · obtain ⟨hr, hgk, hat⟩ := ab_at_arr hC.1 hk (by omega)
    rw [hgk]
    exact va_iald hx hb hK.1 hC.2 (k - 16) 0 hat rfl (ab_vin hi1 hi2) hdc hq
  · obtain ⟨h2, h3⟩ := ab_wf_ro hC.1 hk (by simp [ab_okc])
    have hk0 : k = 0 ∧ n = qL q ∧ f = qx q := by
      unfold ab_ro at h3
      split at h3
      · cases h3; exact ⟨by assumption, rfl, rfl⟩
      · split at h3
        · cases h3
        · split at h3
          · cases h3
          · cases h3
    obtain ⟨rfl, rfl, rfl⟩ := hk0
    have hg0 : ab_g q 0 = .ref (qb q) := rfl
    rw [hg0]
    exact va_sld (H0 := s.heap) (A := ab_A q) hx hb hO.1 (by have := hO.2.1; omega) (Nat.not_le.mpr hO.2.1) hS (ab_vin hi1 hi2) hdc hq

theorem sx_baload (F : ab_Fr q n0 y p R s m args meth c) (ho : ab_ok y pc (.baload, v, w, nx, a, b, t, is) = true) (hd : ab_st1 (.baload, v, w, nx, a, b, t, is) L st h = some (.inl (pc', L', st', h'))) (kk : ab_W q n0 y p l e R s m args below meth c Q pc' L' st' h') : ab_W q n0 y p l e R s m args below meth c Q pc L st h := by
  intro H locs ls hl hC hS
  obtain ⟨hx, hb, hml, hown, hts, hnm, hfr, hlo, hlv, hK, hO, hBs, hg⟩ := F
  obtain ⟨hdc, hnx, h1⟩ := ab_ok_inv ho rfl
  dsimp only [ab_len] at hdc hnx
  simp only [ab_nx] at hnx
  subst hnx
  obtain ⟨i, r1, rfl, hd1⟩ := ab_pi_inv hd
  obtain ⟨k, r2, rfl, hd2⟩ := ab_pr_iv hd1
  obtain ⟨u, n, f, hk, hu, hi1, hi2, hd3⟩ := ab_bald_inv hd2
  cases hd3
  have hq := kk H locs ls hl hC hS
  simp only [List.map_cons, ab_cv]
  rcases hu with rfl | rfl | rfl
  · obtain ⟨hr, hgk, hat⟩ := ab_at_arr hC.1 hk (by omega)
    rw [hgk]
    exact va_bald hx hb hK.1 hC.2 (k - 16) 1 hat rfl (ab_vin hi1 hi2) hdc hq
  · obtain ⟨hr, hgk, hat⟩ := ab_at_arr hC.1 hk (by omega)
    rw [hgk]
    exact va_zald hx hb hK.1 hC.2 (k - 16) 2 hat rfl (ab_vin hi1 hi2) hdc hq
  · obtain ⟨h2, h3⟩ := ab_wf_ro hC.1 hk (by simp [ab_okc])
    have hk0 : 5 ≤ k ∧ k ≤ 8 ∧ n = st_len.getD (k - 5) 0 ∧ f = fun j => (st_byt.getD (k - 5) []).getD j 0 := by
      unfold ab_ro at h3
      split at h3
      · cases h3
      · split at h3
        · cases h3
        · split at h3
          · cases h3; exact ⟨by omega, by assumption, rfl, rfl⟩
          · cases h3
    obtain ⟨hk5, hk8, rfl, rfl⟩ := hk0
    have hg0 : ab_g q k = .ref (qV q (k - 5)) := by
      unfold ab_g
      rw [if_neg (by omega), if_neg (by omega), if_neg (by omega), if_pos hk8]
    rw [hg0]
    obtain ⟨cell, t1, t2, t3, t4, t5, t6, t7⟩ := ((hO.2.2.1.1 (k - 5) (by omega)).2.2.2).kept hS.2.1
    exact W.bald hx hb t1 t2 t3 (fun z => by
      rcases z with z | z
      · exact absurd z (Int32.not_lt.mpr hi1)
      · omega) (t6 _ hi2) rfl rfl hdc hq

theorem sx_arraylength (F : ab_Fr q n0 y p R s m args meth c) (ho : ab_ok y pc (.arraylength, v, w, nx, a, b, t, is) = true) (hd : ab_st1 (.arraylength, v, w, nx, a, b, t, is) L st h = some (.inl (pc', L', st', h'))) (kk : ab_W q n0 y p l e R s m args below meth c Q pc' L' st' h') : ab_W q n0 y p l e R s m args below meth c Q pc L st h := by
  intro H locs ls hl hC hS
  obtain ⟨hx, hb, hml, hown, hts, hnm, hfr, hlo, hlv, hK, hO, hBs, hg⟩ := F
  obtain ⟨hdc, hnx, h1⟩ := ab_ok_inv ho rfl
  dsimp only [ab_len] at hdc hnx
  simp only [ab_nx] at hnx
  subst hnx
  obtain ⟨k, r2, rfl, hd1⟩ := ab_pr_iv hd
  obtain ⟨u, n, f, hk, hd2⟩ := ab_alen_inv hd1
  cases hd2
  have hq := kk H locs ls hl hC hS
  simp only [List.map_cons, ab_cv]
  by_cases hu : u < 3
  · obtain ⟨hr, hgk, hat⟩ := ab_at_arr hC.1 hk hu
    rw [hgk]
    have ht : ∃ (t0 : Nat) (ty : FieldType), (ab_ty q)[t0]? = some (qA q u, ty) := by
      rcases (show u = 0 ∨ u = 1 ∨ u = 2 by omega) with rfl | rfl | rfl
      · exact ⟨0, _, rfl⟩
      · exact ⟨1, _, rfl⟩
      · exact ⟨2, _, rfl⟩
    obtain ⟨t0, ty, ht⟩ := ht
    exact va_alen hx hb hK.1 hC.2 (k - 16) t0 hat ht rfl hdc hq
  · obtain ⟨h2, h3⟩ := ab_wf_ro hC.1 hk (by simpa [ab_okc] using hu)
    unfold ab_ro at h3
    split at h3
    · rename_i hk0
      cases h3
      subst hk0
      have hg0 : ab_g q 0 = .ref (qb q) := rfl
      rw [hg0]
      exact va_slen (H0 := s.heap) (A := ab_A q) hx hb hO.1 (by have := hO.2.1; omega) (Nat.not_le.mpr hO.2.1) hS hdc hq
    · split at h3
      · cases h3
      · split at h3
        · rename_i hk8
          cases h3
          have hg0 : ab_g q k = .ref (qV q (k - 5)) := by
            unfold ab_g
            rw [if_neg (by omega), if_neg (by omega), if_neg (by omega), if_pos hk8]
          rw [hg0]
          obtain ⟨cell, t1, t2, t3, t4, t5, t6, t7⟩ := ((hO.2.2.1.1 (k - 5) (by omega)).2.2.2).kept hS.2.1
          exact W.alen hx hb t1 t2 t5 rfl rfl hdc hq
        · cases h3

theorem sx_iastore (F : ab_Fr q n0 y p R s m args meth c) (ho : ab_ok y pc (.iastore, v, w, nx, a, b, t, is) = true) (hd : ab_st1 (.iastore, v, w, nx, a, b, t, is) L st h = some (.inl (pc', L', st', h'))) (kk : ab_W q n0 y p l e R s m args below meth c Q pc' L' st' h') : ab_W q n0 y p l e R s m args below meth c Q pc L st h := by
  intro H locs ls hl hC hS
  obtain ⟨hx, hb, hml, hown, hts, hnm, hfr, hlo, hlv, hK, hO, hBs, hg⟩ := F
  obtain ⟨hdc, hnx, h1⟩ := ab_ok_inv ho rfl
  dsimp only [ab_len] at hdc hnx
  simp only [ab_nx] at hnx
  subst hnx
  obtain ⟨x, r0, rfl, hd1⟩ := ab_pi_inv hd
  obtain ⟨i, r1, rfl, hd2⟩ := ab_pi_inv hd1
  obtain ⟨k, r2, rfl, hd3⟩ := ab_pr_iv hd2
  obtain ⟨n, f, hk, hi1, hi2, hd4⟩ := ab_iast_inv hd3
  cases hd4
  obtain ⟨hr, hgk, hat⟩ := ab_at_arr hC.1 hk (by omega)
  simp only [List.map_cons, ab_cv]
  rw [hgk]
  refine va_iast hx hb hK.1 hC.2 (ab_w_D q h) hS (k - 16) 0 hat rfl (ab_vin hi1 hi2) hdc (fun H1 locs1 hP1 hD1 hS1 => ?_)
  exact kk H1 locs1 ls hl ⟨ab_wf_set hC.1 hr.1 hr.2 (by simp [ab_okc]), by rw [ab_w_set q h hr.1 hr.2]; exact hP1⟩ hS1

theorem sx_bastore (F : ab_Fr q n0 y p R s m args meth c) (ho : ab_ok y pc (.bastore, v, w, nx, a, b, t, is) = true) (hd : ab_st1 (.bastore, v, w, nx, a, b, t, is) L st h = some (.inl (pc', L', st', h'))) (kk : ab_W q n0 y p l e R s m args below meth c Q pc' L' st' h') : ab_W q n0 y p l e R s m args below meth c Q pc L st h := by
  intro H locs ls hl hC hS
  obtain ⟨hx, hb, hml, hown, hts, hnm, hfr, hlo, hlv, hK, hO, hBs, hg⟩ := F
  obtain ⟨hdc, hnx, h1⟩ := ab_ok_inv ho rfl
  dsimp only [ab_len] at hdc hnx
  simp only [ab_nx] at hnx
  subst hnx
  obtain ⟨x, r0, rfl, hd1⟩ := ab_pi_inv hd
  obtain ⟨i, r1, rfl, hd2⟩ := ab_pi_inv hd1
  obtain ⟨k, r2, rfl, hd3⟩ := ab_pr_iv hd2
  obtain ⟨u, n, f, hk, hu, hi1, hi2, hd4⟩ := ab_bast_inv hd3
  cases hd4
  obtain ⟨hr, hgk, hat⟩ := ab_at_arr hC.1 hk (by omega)
  simp only [List.map_cons, ab_cv]
  rw [hgk]
  rcases hu with rfl | rfl
  · refine va_bast hx hb hK.1 hC.2 (ab_w_D q h) hS (k - 16) 1 hat rfl (ab_vin hi1 hi2) hdc (fun H1 locs1 hP1 hD1 hS1 => ?_)
    exact kk H1 locs1 ls hl ⟨ab_wf_set hC.1 hr.1 hr.2 (by simp [ab_okc]), by rw [ab_w_set q h hr.1 hr.2]; exact hP1⟩ hS1
  · refine va_zast hx hb hK.1 hC.2 (ab_w_D q h) hS (k - 16) 2 hat rfl (ab_vin hi1 hi2) hdc (fun H1 locs1 hP1 hD1 hS1 => ?_)
    exact kk H1 locs1 ls hl ⟨ab_wf_set hC.1 hr.1 hr.2 (by simp [ab_okc]), by rw [ab_w_set q h hr.1 hr.2]; exact hP1⟩ hS1

theorem sx_aaload (hg9 : qv9 q = .null ∨ ∃ z, qv9 q = .ref z) (F : ab_Fr q n0 y p R s m args meth c) (ho : ab_ok y pc (.aaload, v, w, nx, a, b, t, is) = true) (hd : ab_st1 (.aaload, v, w, nx, a, b, t, is) L st h = some (.inl (pc', L', st', h'))) (kk : ab_W q n0 y p l e R s m args below meth c Q pc' L' st' h') : ab_W q n0 y p l e R s m args below meth c Q pc L st h := by
  intro H locs ls hl hC hS
  obtain ⟨hx, hb, hml, hown, hts, hnm, hfr, hlo, hlv, hK, hO, hBs, hg⟩ := F
  obtain ⟨hdc, hnx, h1⟩ := ab_ok_inv ho rfl
  dsimp only [ab_len] at hdc hnx
  simp only [ab_nx] at hnx
  subst hnx
  obtain ⟨i, r1, rfl, hd1⟩ := ab_pi_inv hd
  obtain ⟨k, r2, rfl, hd2⟩ := ab_pr_iv hd1
  obtain ⟨fs, x, hk, hi1, hi2, hd3⟩ := ab_aald_inv hd2
  cases hd3
  have hq := kk H locs ls hl hC hS
  obtain ⟨hr, hgk, hat⟩ := ab_at_row hC.1 hk
  simp only [List.map_cons, ab_cv] at hq ⊢
  rw [hgk]
  have hlt : i.toNatClampNeg < fs.length := (List.getElem?_eq_some_iff.mp hi2).1
  refine va_aldq hx hb hK.1 hC.2 (k - 16) 3 hat rfl (ab_vin hi1 hlt) hdc ?_
  have e1 : fs.getD i.toNatClampNeg .null = .ref x := by rw [List.getD_eq_getElem?_getD, hi2]; rfl
  have e2 : va_rf (ab_rfo q (fs.getD i.toNatClampNeg .null)) = ab_g q x := by
    rw [e1]
    rcases ab_g_ref hg9 x with ⟨z, hz⟩ | hz
    · simp [ab_rfo, ab_cv, hz, va_rf]
    · simp [ab_rfo, ab_cv, hz, va_rf]
  rw [e2]
  exact hq

theorem sx_aastore (F : ab_Fr q n0 y p R s m args meth c) (ho : ab_ok y pc (.aastore, v, w, nx, a, b, t, is) = true) (hd : ab_st1 (.aastore, v, w, nx, a, b, t, is) L st h = some (.inl (pc', L', st', h'))) (kk : ab_W q n0 y p l e R s m args below meth c Q pc' L' st' h') : ab_W q n0 y p l e R s m args below meth c Q pc L st h := by
  intro H locs ls hl hC hS
  obtain ⟨hx, hb, hml, hown, hts, hnm, hfr, hlo, hlv, hK, hO, hBs, hg⟩ := F
  obtain ⟨hdc, hnx, h1⟩ := ab_ok_inv ho rfl
  dsimp only [ab_len] at hdc hnx
  simp only [ab_nx] at hnx
  subst hnx
  obtain ⟨x, r0, rfl, hd1⟩ := ab_pr_iv hd
  obtain ⟨i, r1, rfl, hd2⟩ := ab_pi_inv hd1
  obtain ⟨k, r2, rfl, hd3⟩ := ab_pr_iv hd2
  obtain ⟨fs, vs, hk, hi1, hi2, hx3, hd4⟩ := ab_aast_inv hd3
  cases hd4
  obtain ⟨hr, hgk, hat⟩ := ab_at_row hC.1 hk
  obtain ⟨hr3, hgx, hatx⟩ := ab_at_obj hC.1 hx3 (by omega)
  simp only [List.map_cons, ab_cv]
  rw [hgk, hgx]
  refine va_astq (r := (RX3, TX3, 5)) hx hb hK.1 hC.2 (ab_w_D q h) hS (k - 16) 3 (x - 16) 3 hat rfl hatx rfl (ab_vin hi1 hi2) hdc (fun H1 locs1 hP1 hD1 hS1 => ?_)
  refine kk H1 locs1 ls hl ⟨ab_wf_set hC.1 hr.1 hr.2 (by simp [ab_okc]), ?_⟩ hS1
  rw [ab_w_set q h hr.1 hr.2]
  have e3 : (va_up (fun j => ab_rfo q (fs.getD j .null)) i.toNatClampNeg (some (qB q + (x - 16)))) = fun j => ab_rfo q ((fs.set i.toNatClampNeg (.ref x)).getD j .null) := by
    funext j
    by_cases hj : j = i.toNatClampNeg
    · subst hj
      simp only [va_up, if_true, List.getD_eq_getElem?_getD, List.getElem?_set_self hi2, Option.getD_some, ab_rfo, ab_cv, hgx]
    · simp only [va_up, if_neg hj, List.getD_eq_getElem?_getD, List.getElem?_set_ne (Ne.symm hj)]
  rw [e3] at hP1
  have e4 : ab_ce q (some (.inr (30, fs.set i.toNatClampNeg (.ref x)))) = .inl (qA q 3, fs.length, .inr (.inr (.inr (.inr (fun j => ab_rfo q ((fs.set i.toNatClampNeg (.ref x)).getD j .null)))))) := by
    simp [ab_ce, List.length_set]
  rw [e4]
  exact hP1

theorem sx_getfield {k : Nat} (F : ab_Fr q n0 y p R s m args meth c) (ho : ab_ok y pc (.getfield k, v, w, nx, a, b, t, is) = true) (hd : ab_st1 (.getfield k, v, w, nx, a, b, t, is) L st h = some (.inl (pc', L', st', h'))) (kk : ab_W q n0 y p l e R s m args below meth c Q pc' L' st' h') : ab_W q n0 y p l e R s m args below meth c Q pc L st h := by
  intro H locs ls hl hC hS
  obtain ⟨hx, hb, hml, hown, hts, hnm, hfr, hlo, hlv, hK, hO, hBs, hg⟩ := F
  obtain ⟨hdc, hnx, h1⟩ := ab_ok_inv ho rfl
  dsimp only [ab_len] at hdc hnx
  simp only [ab_nx] at hnx
  subst hnx
  obtain ⟨o, r1, rfl, hd1⟩ := ab_pr_iv hd
  have key : ∀ (fs : List Value) (x : Value), ab_get h o = some (.inr (a, fs)) → fs[b]? = some x → W p l e R s m args below meth c H locs (h.1 - n0) (200 * (h.1 - n0)) Q (F0 m (pc + 3) ls ((x :: r1).map (ab_cv q))) → W p l e R s m args below meth c H locs (h.1 - n0) (200 * (h.1 - n0)) Q (F0 m pc ls ((.ref o :: r1).map (ab_cv q))) := by
    intro fs x hk hfs hq
    simp only [List.map_cons] at hq ⊢
    rw [show ab_cv q (Value.ref o) = ab_g q o from rfl]
    simp only [ab_ok1, ab_ia, ab_ib] at h1
    by_cases ha : a = 20
    · subst ha
      rw [if_pos rfl] at h1
      obtain ⟨i, hi, rfl, hgk, rfl⟩ := ab_at_str hC.1 hk
      rw [hgk]
      obtain ⟨s1, s2, s3, s4⟩ := hO.2.2.1.1 i hi
      by_cases hb0 : b = 0
      · subst hb0
        rw [if_pos rfl] at h1
        cases hfs
        refine vk_getf hx hb s3 hS hown (hts _ (lw_g_of (of_decide_eq_true h1) rfl)) (fun _ z => z) hdc ?_
        have hg5 : ab_g q (i + 5) = .ref (qV q i) := by
          unfold ab_g
          rw [if_neg (by omega), if_neg (by omega), if_neg (by omega), if_pos (by omega), show i + 5 - 5 = i by omega]
        rw [show ab_cv q (Value.ref (i + 5)) = .ref (qV q i) from hg5] at hq
        exact hq
      · rw [if_neg hb0] at h1
        simp only [Bool.and_eq_true, decide_eq_true_eq] at h1
        have hb1 : b = 1 := Nat.eq_of_beq_eq_true h1.1
        subst hb1
        cases hfs
        exact vk_getf hx hb s2 hS hown (hts _ (lw_g_of h1.2 rfl)) (fun _ z => z) hdc hq
    · rw [if_neg ha] at h1
      split at h1
      · rename_i r hr
        simp only [Bool.and_eq_true, decide_eq_true_eq] at h1
        obtain ⟨hc12, hcl⟩ := ab_cls_of hr
        obtain ⟨hrk, hgk, hat⟩ := ab_at_obj hC.1 hk hc12
        rw [hgk]
        exact va_get (C := r.1) (T := r.2.1) (N := r.2.2) hx hb hts (u_ws_good hcl.1) hown hK.1 hC.2 (o - 16) hat hr b (Nat.le_of_ble_eq_true h1.1) (hts _ (lw_g_of h1.2 rfl)) (fun _ z => z) (by rw [List.getElem?_map, hfs]; rfl) hdc hq
      · cases h1
  rcases ab_ite_inv hd1 with ⟨_, hd2⟩ | ⟨_, hd2⟩
  · obtain ⟨fs, x, hk, hfs, hd3⟩ := ab_gfi_inv hd2
    cases hd3
    exact key fs _ hk hfs (kk H locs ls hl hC hS)
  · rcases ab_ite_inv hd2 with ⟨_, hd4⟩ | ⟨_, hd4⟩
    · obtain ⟨fs, x, hk, hfs, hd5⟩ := ab_gfr_inv hd4
      cases hd5
      exact key fs _ hk hfs (kk H locs ls hl hC hS)
    · obtain ⟨fs, x, hk, hfs, hd6⟩ := ab_gfl_inv hd4
      cases hd6
      exact key fs _ hk hfs (kk H locs ls hl hC hS)

theorem sx_putfield (hg9 : qv9 q = .null ∨ ∃ z, qv9 q = .ref z) {k : Nat} (F : ab_Fr q n0 y p R s m args meth c) (ho : ab_ok y pc (.putfield k, v, w, nx, a, b, t, is) = true) (hd : ab_st1 (.putfield k, v, w, nx, a, b, t, is) L st h = some (.inl (pc', L', st', h'))) (kk : ab_W q n0 y p l e R s m args below meth c Q pc' L' st' h') : ab_W q n0 y p l e R s m args below meth c Q pc L st h := by
  intro H locs ls hl hC hS
  obtain ⟨hx, hb, hml, hown, hts, hnm, hfr, hlo, hlv, hK, hO, hBs, hg⟩ := F
  obtain ⟨hdc, hnx, h1⟩ := ab_ok_inv ho rfl
  dsimp only [ab_len] at hdc hnx
  simp only [ab_nx] at hnx
  subst hnx
  have key : ∀ (o : Nat) (fs : List Value) (x : Value) (r1 : List Value), ab_get h o = some (.inr (a, fs)) → b < fs.length → (∀ d, ab_tok t d = true → ∃ ty, parseFieldDescriptor d = some ty ∧ narrow ty (ab_cv q x) = ab_cv q x ∧ fits ty (ab_cv q x) = true) → (∀ (H1 : Heap) (locs1 : List Loc), ab_C q (ab_set h o (.inr (a, fs.set b x))) H1 → va_S (ab_A q) s.heap H1 locs1 → W p l e R s m args below meth c H1 locs1 (h.1 - n0) (200 * (h.1 - n0)) Q (F0 m (pc + 3) ls (r1.map (ab_cv q)))) → W p l e R s m args below meth c H locs (h.1 - n0) (200 * (h.1 - n0)) Q (F0 m pc ls ((x :: .ref o :: r1).map (ab_cv q))) := by
    intro o fs x r1 hk hbl hty hq
    simp only [List.map_cons]
    rw [show ab_cv q (.ref o) = ab_g q o from rfl]
    simp only [ab_ok1, ab_ia, ab_ib, ab_it] at h1
    split at h1
    · rename_i r hr
      simp only [Bool.and_eq_true, Bool.or_eq_true, Bool.not_eq_true', decide_eq_true_eq] at h1
      obtain ⟨⟨⟨g1, g2⟩, g3⟩, g4⟩ := h1
      obtain ⟨hc12, hcl⟩ := ab_cls_of hr
      obtain ⟨hcw, -, -, ⟨ty0, hty0, -⟩, hnm0, -⟩ := hcl
      obtain ⟨hrk, hgk, hat⟩ := ab_at_obj hC.1 hk hc12
      rw [hgk]
      obtain ⟨ty, e1, e2, e3⟩ := hty _ g3
      have fin : ∀ (H1 : Heap) (locs1 : List Loc), va_P (qD q) vwCl ((ab_w q h).set (o - 16) (qB q + (o - 16), .inr (a, (fs.map (ab_cv q)).set b (ab_cv q x)))) H1 → va_S (ab_A q) s.heap H1 locs1 → W p l e R s m args below meth c H1 locs1 (h.1 - n0) (200 * (h.1 - n0)) Q (F0 m (pc + 3) ls (r1.map (ab_cv q))) := by
        intro H1 locs1 hP1 hS1
        refine hq H1 locs1 ⟨ab_wf_set hC.1 hrk.1 hrk.2 (by simp [ab_okc]; omega), ?_⟩ hS1
        rw [ab_w_set q h hrk.1 hrk.2]
        have e4 : ab_ce q (some (.inr (a, fs.set b x))) = .inr (a, (fs.map (ab_cv q)).set b (ab_cv q x)) := by
          simp only [ab_ce]
          rw [if_neg (by omega), List.map_set]
        rw [e4]
        exact hP1
      have hblm : b < (fs.map (ab_cv q)).length := by rw [List.length_map]; exact hbl
      rcases g4 with g4 | g4
      · exact va_put (C := r.1) (T := r.2.1) (N := r.2.2) hx hb hts (u_ws_good hcw) ty0 hty0 hnm0 hown hK.1 hC.2 (ab_w_D q h) hS (o - 16) hat hr b (Nat.le_of_ble_eq_true g1) (hts _ (lw_g_of g2 rfl)) (fun _ z => z) g4 e1 e2 e3 hblm hdc (fun H1 locs1 hP1 _ hS1 => fin H1 locs1 hP1 hS1)
      · by_cases hf : (r.2.1 b).2.2.2 = true
        · exact va_putF (C := r.1) (T := r.2.1) (N := r.2.2) hx hb hts (u_ws_good hcw) ty0 hty0 hnm0 hown hK.1 hC.2 (ab_w_D q h) hS (o - 16) hat hr b (Nat.le_of_ble_eq_true g1) (hts _ (lw_g_of g2 rfl)) (fun _ z => z) hf (hnm g4.1) g4.2 e1 e2 e3 hblm hdc (fun H1 locs1 hP1 _ hS1 => fin H1 locs1 hP1 hS1)
        · exact va_put (C := r.1) (T := r.2.1) (N := r.2.2) hx hb hts (u_ws_good hcw) ty0 hty0 hnm0 hown hK.1 hC.2 (ab_w_D q h) hS (o - 16) hat hr b (Nat.le_of_ble_eq_true g1) (hts _ (lw_g_of g2 rfl)) (fun _ z => z) (by simpa using hf) e1 e2 e3 hblm hdc (fun H1 locs1 hP1 _ hS1 => fin H1 locs1 hP1 hS1)
    · cases h1
  rcases ab_ite_inv hd with ⟨ht, hd1⟩ | ⟨ht, hd1⟩
  · have ht : t = 0 := ht
    obtain ⟨x, r0, rfl, hd2⟩ := ab_pi_inv hd1
    obtain ⟨o, r1, rfl, hd3⟩ := ab_pr_iv hd2
    obtain ⟨fs, hk, hbl, hd4⟩ := ab_pf_inv hd3
    cases hd4
    refine key o fs (.int x) _ hk hbl (fun d hz => ?_) (fun H1 locs1 hC1 hS1 => kk H1 locs1 ls hl hC1 hS1)
    rw [ht] at hz
    unfold ab_tok at hz
    split at hz
    · rename_i hp
      exact ⟨_, hp, rfl, rfl⟩
    all_goals cases hz
  · rcases ab_ite_inv hd1 with ⟨ht, hd5⟩ | ⟨ht2, hd5⟩
    · have ht : t = 1 := ht
      obtain ⟨x, r0, rfl, hd6⟩ := ab_pr_iv hd5
      obtain ⟨o, r1, rfl, hd7⟩ := ab_pr_iv hd6
      obtain ⟨fs, hk, hbl, hd8⟩ := ab_pf_inv hd7
      cases hd8
      refine key o fs (.ref x) _ hk hbl (fun d hz => ?_) (fun H1 locs1 hC1 hS1 => kk H1 locs1 ls hl hC1 hS1)
      rw [ht] at hz
      simp only [ab_cv]
      unfold ab_tok at hz
      split at hz
      · cases hz
      · cases hz
      · rename_i hp
        rcases ab_g_ref hg9 x with ⟨z, hz⟩ | hz
        · exact ⟨_, hp, by rw [hz]; rfl, by rw [hz]; rfl⟩
        · exact ⟨_, hp, by rw [hz]; rfl, by rw [hz]; rfl⟩
      · rename_i hp
        rcases ab_g_ref hg9 x with ⟨z, hz⟩ | hz
        · exact ⟨_, hp, by rw [hz]; rfl, by rw [hz]; rfl⟩
        · exact ⟨_, hp, by rw [hz]; rfl, by rw [hz]; rfl⟩
      · cases hz
    · obtain ⟨x, r0, rfl, hd9⟩ := ab_pl_inv hd5
      obtain ⟨o, r1, rfl, hd10⟩ := ab_pr_iv hd9
      obtain ⟨fs, hk, hbl, hd11⟩ := ab_pf_inv hd10
      cases hd11
      refine key o fs (.long x) _ hk hbl (fun d hz => ?_) (fun H1 locs1 hC1 hS1 => kk H1 locs1 ls hl hC1 hS1)
      have ht0 : ¬ t = 0 := ht
      have ht1 : ¬ t = 1 := ht2
      unfold ab_tok at hz
      split at hz
      · exact absurd (Nat.eq_of_beq_eq_true hz) ht0
      · rename_i hp
        exact ⟨_, hp, rfl, rfl⟩
      · exact absurd (Nat.eq_of_beq_eq_true hz) ht1
      · exact absurd (Nat.eq_of_beq_eq_true hz) ht1
      · cases hz

theorem sx_getstatic {k : Nat} (F : ab_Fr q n0 y p R s m args meth c) (ho : ab_ok y pc (.getstatic k, v, w, nx, a, b, t, is) = true) (hd : ab_st1 (.getstatic k, v, w, nx, a, b, t, is) L st h = some (.inl (pc', L', st', h'))) (kk : ab_W q n0 y p l e R s m args below meth c Q pc' L' st' h') : ab_W q n0 y p l e R s m args below meth c Q pc L st h := by
  intro H locs ls hl hC hS
  obtain ⟨hx, hb, hml, hown, hts, hnm, hfr, hlo, hlv, hK, hO, hBs, hg⟩ := F
  obtain ⟨hdc, hnx, h1⟩ := ab_ok_inv ho rfl
  dsimp only [ab_len] at hdc hnx
  simp only [ab_nx] at hnx
  subst hnx
  simp only [ab_ok1, ab_it] at h1
  rcases ab_ite_inv hd with ⟨ht, hd1⟩ | ⟨ht, hd1⟩
  · cases hd1
    have ht : t = 0 := ht
    rw [if_pos ht] at h1
    exact va_gets hx hb hO.2.2.2.1 hS hown (hts _ (lw_g_of (of_decide_eq_true h1) rfl)) (fun _ z => z) hdc (kk H locs ls hl hC hS)
  · cases hd1
    have ht : ¬ t = 0 := ht
    rw [if_neg ht] at h1
    exact va_gets hx hb hO.2.2.2.2 hS hown (hts _ (lw_g_of (of_decide_eq_true h1) rfl)) (fun _ z => z) hdc (kk H locs ls hl hC hS)

end
