/-! the real machine follows the pure one: what holds in a frame, and a row for each instruction that goes on -/
def lw_g : List Cond := lw_tbl.filter goodWord
theorem lw_g_of {w : Cond} {k : Nat} (h : lw_tbl[k]? = some w) (hg : goodWord w = true) : w ∈ lw_g := List.mem_filter.mpr ⟨List.mem_of_getElem? h, hg⟩
/-- what holds of a frame of the method y -/
def ab_Fr (q : ab_Q) (n0 y : Nat) (p : Program) (R : Room) (s : State) (m : MethodId) (args : Array Value) (meth : Method) (c : Code) : Prop :=
  p.tables.exec = Jvm.exec ∧ c.code = byT y ∧ c.maxLocals = mxT y ∧ s.vm.findClass (nmT y).cls = some m.cls ∧ (∀ w ∈ lw_g, w.before args s = true) ∧ ((nmT y).name = "<init>" → meth.name = "<init>") ∧ lvT y ≤ R.frames ∧ 35 * lvT y ≤ R.locals ∧ 1 ≤ lvT y ∧ ab_K q s ∧ ab_O q s s.heap ∧ (s.heap.size = qB q + (n0 - 16) ∧ 16 ≤ n0) ∧ ∀ k, (ab_g q k).category = 1
/-- from every real state that stands for the pure one, the machine comes to Q -/
def ab_W (q : ab_Q) (n0 y : Nat) (p : Program) (l : Launch) (e : Env) (R : Room) (s : State) (m : MethodId) (args : Array Value) (below : List Frame) (meth : Method) (c : Code) (Q : State → Prop) (pc : Nat) (L : ab_L) (st : List Value) (h : ab_H) : Prop :=
  ∀ (H : Heap) (locs : List Loc) (ls : Array Slot), ab_lr q L ls (mxT y) → ab_C q h H → va_S (ab_A q) s.heap H locs → W p l e R s m args below meth c H locs (h.1 - n0) (200 * (h.1 - n0)) Q (F0 m pc ls (st.map (ab_cv q)))
theorem ab_ok_inv {y pc : Nat} {i : ab_I} (h : ab_ok y pc i = true) (hs : ab_isw i.1 = false) : decode (byT y) pc = .ok (i.1, ab_len i.1) ∧ ab_nx i = pc + ab_len i.1 ∧ ab_ok1 y pc (plT y pc) i = true := by
  simp only [ab_ok, hs, Bool.and_eq_true, decide_eq_true_eq] at h
  simp only [Bool.false_eq_true, if_false, Bool.and_eq_true, decide_eq_true_eq] at h
  exact ⟨h.1.1, Nat.eq_of_beq_eq_true h.1.2, h.2⟩
theorem ab_g_ref {q : ab_Q} (h9 : qv9 q = .null ∨ ∃ z, qv9 q = .ref z) (k : Nat) : (∃ z, ab_g q k = .ref z) ∨ ab_g q k = .null := by
  unfold ab_g
  split
  · exact Or.inl ⟨_, rfl⟩
  · split
    · exact Or.inl ⟨_, rfl⟩
    · split
      · exact Or.inl ⟨_, rfl⟩
      · split
        · exact Or.inl ⟨_, rfl⟩
        · rcases h9 with h | ⟨z, h⟩
          · exact Or.inr h
          · exact Or.inl ⟨z, h⟩
section
variable {q : ab_Q} {n0 y : Nat} {p : Program} {l : Launch} {e : Env} {R : Room} {s : State} {m : MethodId} {args : Array Value} {below : List Frame} {meth : Method} {c : Code} {Q : State → Prop} {pc : Nat} {L L' : ab_L} {st st' : List Value} {h h' : ab_H} {v : Int32} {w : Int64} {nx a b t pc' : Nat} {is : List Nat}

theorem sx_iconst {k : Int} (F : ab_Fr q n0 y p R s m args meth c) (ho : ab_ok y pc (.iconst k, v, w, nx, a, b, t, is) = true) (hd : ab_st1 (.iconst k, v, w, nx, a, b, t, is) L st h = some (.inl (pc', L', st', h'))) (kk : ab_W q n0 y p l e R s m args below meth c Q pc' L' st' h') : ab_W q n0 y p l e R s m args below meth c Q pc L st h := by
  intro H locs ls hl hC hS
  obtain ⟨hx, hb, hml, hown, hts, hnm, hfr, hlo, hlv, hK, hO, hBs, hg⟩ := F
  obtain ⟨hdc, hnx, h1⟩ := ab_ok_inv ho rfl
  dsimp only [ab_len] at hdc hnx
  simp only [ab_nx] at hnx
  subst hnx
  cases hd
  exact lv_iconst hx hb hdc (of_decide_eq_true h1) (kk H locs ls hl hC hS)

theorem sx_bipush {k : Int} (F : ab_Fr q n0 y p R s m args meth c) (ho : ab_ok y pc (.bipush k, v, w, nx, a, b, t, is) = true) (hd : ab_st1 (.bipush k, v, w, nx, a, b, t, is) L st h = some (.inl (pc', L', st', h'))) (kk : ab_W q n0 y p l e R s m args below meth c Q pc' L' st' h') : ab_W q n0 y p l e R s m args below meth c Q pc L st h := by
  intro H locs ls hl hC hS
  obtain ⟨hx, hb, hml, hown, hts, hnm, hfr, hlo, hlv, hK, hO, hBs, hg⟩ := F
  obtain ⟨hdc, hnx, h1⟩ := ab_ok_inv ho rfl
  dsimp only [ab_len] at hdc hnx
  simp only [ab_nx] at hnx
  subst hnx
  cases hd
  exact lv_bipush hx hb hdc (of_decide_eq_true h1) (kk H locs ls hl hC hS)

theorem sx_sipush {k : Int} (F : ab_Fr q n0 y p R s m args meth c) (ho : ab_ok y pc (.sipush k, v, w, nx, a, b, t, is) = true) (hd : ab_st1 (.sipush k, v, w, nx, a, b, t, is) L st h = some (.inl (pc', L', st', h'))) (kk : ab_W q n0 y p l e R s m args below meth c Q pc' L' st' h') : ab_W q n0 y p l e R s m args below meth c Q pc L st h := by
  intro H locs ls hl hC hS
  obtain ⟨hx, hb, hml, hown, hts, hnm, hfr, hlo, hlv, hK, hO, hBs, hg⟩ := F
  obtain ⟨hdc, hnx, h1⟩ := ab_ok_inv ho rfl
  dsimp only [ab_len] at hdc hnx
  simp only [ab_nx] at hnx
  subst hnx
  cases hd
  exact lv_sipush hx hb hdc (of_decide_eq_true h1) (kk H locs ls hl hC hS)

theorem sx_lconst {k : Fin 2} (F : ab_Fr q n0 y p R s m args meth c) (ho : ab_ok y pc (.lconst k, v, w, nx, a, b, t, is) = true) (hd : ab_st1 (.lconst k, v, w, nx, a, b, t, is) L st h = some (.inl (pc', L', st', h'))) (kk : ab_W q n0 y p l e R s m args below meth c Q pc' L' st' h') : ab_W q n0 y p l e R s m args below meth c Q pc L st h := by
  intro H locs ls hl hC hS
  obtain ⟨hx, hb, hml, hown, hts, hnm, hfr, hlo, hlv, hK, hO, hBs, hg⟩ := F
  obtain ⟨hdc, hnx, h1⟩ := ab_ok_inv ho rfl
  dsimp only [ab_len] at hdc hnx
  simp only [ab_nx] at hnx
  subst hnx
  cases hd
  exact lv_lconst hx hb hdc (of_decide_eq_true h1) (kk H locs ls hl hC hS)

theorem sx_ldc2_w {k : Nat} (F : ab_Fr q n0 y p R s m args meth c) (ho : ab_ok y pc (.ldc2_w k, v, w, nx, a, b, t, is) = true) (hd : ab_st1 (.ldc2_w k, v, w, nx, a, b, t, is) L st h = some (.inl (pc', L', st', h'))) (kk : ab_W q n0 y p l e R s m args below meth c Q pc' L' st' h') : ab_W q n0 y p l e R s m args below meth c Q pc L st h := by
  intro H locs ls hl hC hS
  obtain ⟨hx, hb, hml, hown, hts, hnm, hfr, hlo, hlv, hK, hO, hBs, hg⟩ := F
  obtain ⟨hdc, hnx, h1⟩ := ab_ok_inv ho rfl
  dsimp only [ab_len] at hdc hnx
  simp only [ab_nx] at hnx
  subst hnx
  cases hd
  exact lv_ldc2 hx hb hown (hts _ (lw_g_of (of_decide_eq_true h1) rfl)) hdc (kk H locs ls hl hC hS)

theorem sx_ldc_w {k : Nat} (F : ab_Fr q n0 y p R s m args meth c) (ho : ab_ok y pc (.ldc_w k, v, w, nx, a, b, t, is) = true) (hd : ab_st1 (.ldc_w k, v, w, nx, a, b, t, is) L st h = some (.inl (pc', L', st', h'))) (kk : ab_W q n0 y p l e R s m args below meth c Q pc' L' st' h') : ab_W q n0 y p l e R s m args below meth c Q pc L st h := by
  intro H locs ls hl hC hS
  obtain ⟨hx, hb, hml, hown, hts, hnm, hfr, hlo, hlv, hK, hO, hBs, hg⟩ := F
  obtain ⟨hdc, hnx, h1⟩ := ab_ok_inv ho rfl
  dsimp only [ab_len] at hdc hnx
  simp only [ab_nx] at hnx
  subst hnx
  cases hd
  exact lv_ldcw hx hb hown (hts _ (lw_g_of (of_decide_eq_true h1) rfl)) hdc (kk H locs ls hl hC hS)

theorem sx_ldc {k : Nat} (F : ab_Fr q n0 y p R s m args meth c) (ho : ab_ok y pc (.ldc k, v, w, nx, a, b, t, is) = true) (hd : ab_st1 (.ldc k, v, w, nx, a, b, t, is) L st h = some (.inl (pc', L', st', h'))) (kk : ab_W q n0 y p l e R s m args below meth c Q pc' L' st' h') : ab_W q n0 y p l e R s m args below meth c Q pc L st h := by
  intro H locs ls hl hC hS
  obtain ⟨hx, hb, hml, hown, hts, hnm, hfr, hlo, hlv, hK, hO, hBs, hg⟩ := F
  obtain ⟨hdc, hnx, h1⟩ := ab_ok_inv ho rfl
  dsimp only [ab_len] at hdc hnx
  simp only [ab_nx] at hnx
  subst hnx
  simp only [ab_ok1, ab_it, ab_ia, ab_iv] at h1
  rcases ab_ite_inv hd with ⟨ht, hd⟩ | ⟨ht, hd⟩
  · cases hd
    have ht : t = 0 := ht
    rw [if_pos ht] at h1
    exact lv_ldc hx hb hown (hts _ (lw_g_of (of_decide_eq_true h1) rfl)) hdc (kk H locs ls hl hC hS)
  · cases hd
    have ht : ¬ t = 0 := ht
    rw [if_neg ht] at h1
    simp only [Bool.and_eq_true, decide_eq_true_eq] at h1
    obtain ⟨⟨⟨e1, e2⟩, e3⟩, e4⟩ := h1
    have hZ := hK.2.1 (a - 1) (by omega)
    have hga : ab_g q a = .ref (qK q (a - 1)) := by
      unfold ab_g
      rw [if_neg (by omega), if_neg (by omega), if_pos e3]
    refine va_ldcS hx hb (own := "RopeLaw$Text") (by rw [← e1]; exact hown) (by rw [← e4] at hZ; exact hZ) hdc ?_
    have := kk H locs ls hl hC hS
    simp only [List.map_cons, ab_cv, ab_ia, hga] at this
    exact this

theorem sx_iload {k : Nat} (F : ab_Fr q n0 y p R s m args meth c) (ho : ab_ok y pc (.iload k, v, w, nx, a, b, t, is) = true) (hd : ab_st1 (.iload k, v, w, nx, a, b, t, is) L st h = some (.inl (pc', L', st', h'))) (kk : ab_W q n0 y p l e R s m args below meth c Q pc' L' st' h') : ab_W q n0 y p l e R s m args below meth c Q pc L st h := by
  intro H locs ls hl hC hS
  obtain ⟨hx, hb, hml, hown, hts, hnm, hfr, hlo, hlv, hK, hO, hBs, hg⟩ := F
  obtain ⟨hdc, hnx, h1⟩ := ab_ok_inv ho rfl
  dsimp only [ab_len] at hdc hnx
  simp only [ab_nx] at hnx
  subst hnx
  obtain ⟨x, hx1, hd⟩ := ab_ldi_inv hd
  cases hd
  have hk : k = a := Nat.eq_of_beq_eq_true h1
  subst hk
  exact lv_iload hx hb hdc (ab_lr_int hl hx1) (kk H locs ls hl hC hS)

theorem sx_iload_n {k : Fin 4} (F : ab_Fr q n0 y p R s m args meth c) (ho : ab_ok y pc (.iload_n k, v, w, nx, a, b, t, is) = true) (hd : ab_st1 (.iload_n k, v, w, nx, a, b, t, is) L st h = some (.inl (pc', L', st', h'))) (kk : ab_W q n0 y p l e R s m args below meth c Q pc' L' st' h') : ab_W q n0 y p l e R s m args below meth c Q pc L st h := by
  intro H locs ls hl hC hS
  obtain ⟨hx, hb, hml, hown, hts, hnm, hfr, hlo, hlv, hK, hO, hBs, hg⟩ := F
  obtain ⟨hdc, hnx, h1⟩ := ab_ok_inv ho rfl
  dsimp only [ab_len] at hdc hnx
  simp only [ab_nx] at hnx
  subst hnx
  obtain ⟨x, hx1, hd⟩ := ab_ldi_inv hd
  cases hd
  exact lv_iload_n hx hb hdc (Nat.eq_of_beq_eq_true h1) (ab_lr_int hl hx1) (kk H locs ls hl hC hS)

theorem sx_lload {k : Nat} (F : ab_Fr q n0 y p R s m args meth c) (ho : ab_ok y pc (.lload k, v, w, nx, a, b, t, is) = true) (hd : ab_st1 (.lload k, v, w, nx, a, b, t, is) L st h = some (.inl (pc', L', st', h'))) (kk : ab_W q n0 y p l e R s m args below meth c Q pc' L' st' h') : ab_W q n0 y p l e R s m args below meth c Q pc L st h := by
  intro H locs ls hl hC hS
  obtain ⟨hx, hb, hml, hown, hts, hnm, hfr, hlo, hlv, hK, hO, hBs, hg⟩ := F
  obtain ⟨hdc, hnx, h1⟩ := ab_ok_inv ho rfl
  dsimp only [ab_len] at hdc hnx
  simp only [ab_nx] at hnx
  subst hnx
  obtain ⟨x, z, hx1, hx2, hd⟩ := ab_ldl_inv hd
  cases hd
  have hk : k = a := Nat.eq_of_beq_eq_true h1
  subst hk
  exact lv_lload hx hb hdc (ab_lr_long hl hx1 hx2) (kk H locs ls hl hC hS)

theorem sx_lload_n {k : Fin 4} (F : ab_Fr q n0 y p R s m args meth c) (ho : ab_ok y pc (.lload_n k, v, w, nx, a, b, t, is) = true) (hd : ab_st1 (.lload_n k, v, w, nx, a, b, t, is) L st h = some (.inl (pc', L', st', h'))) (kk : ab_W q n0 y p l e R s m args below meth c Q pc' L' st' h') : ab_W q n0 y p l e R s m args below meth c Q pc L st h := by
  intro H locs ls hl hC hS
  obtain ⟨hx, hb, hml, hown, hts, hnm, hfr, hlo, hlv, hK, hO, hBs, hg⟩ := F
  obtain ⟨hdc, hnx, h1⟩ := ab_ok_inv ho rfl
  dsimp only [ab_len] at hdc hnx
  simp only [ab_nx] at hnx
  subst hnx
  obtain ⟨x, z, hx1, hx2, hd⟩ := ab_ldl_inv hd
  cases hd
  exact lv_lload_n hx hb hdc (Nat.eq_of_beq_eq_true h1) (ab_lr_long hl hx1 hx2) (kk H locs ls hl hC hS)

theorem sx_aload (hg9 : qv9 q = .null ∨ ∃ z, qv9 q = .ref z) {k : Nat} (F : ab_Fr q n0 y p R s m args meth c) (ho : ab_ok y pc (.aload k, v, w, nx, a, b, t, is) = true) (hd : ab_st1 (.aload k, v, w, nx, a, b, t, is) L st h = some (.inl (pc', L', st', h'))) (kk : ab_W q n0 y p l e R s m args below meth c Q pc' L' st' h') : ab_W q n0 y p l e R s m args below meth c Q pc L st h := by
  intro H locs ls hl hC hS
  obtain ⟨hx, hb, hml, hown, hts, hnm, hfr, hlo, hlv, hK, hO, hBs, hg⟩ := F
  obtain ⟨hdc, hnx, h1⟩ := ab_ok_inv ho rfl
  dsimp only [ab_len] at hdc hnx
  simp only [ab_nx] at hnx
  subst hnx
  obtain ⟨x, hx1, hd⟩ := ab_lda_inv hd
  cases hd
  have hk : k = a := Nat.eq_of_beq_eq_true h1
  subst hk
  have hq := ab_lr_ref hl hx1
  have := kk H locs ls hl hC hS
  simp only [List.map_cons, ab_cv] at this
  rcases ab_g_ref hg9 x with ⟨z, hz⟩ | hz
  · rw [hz] at hq this
    exact lv_aload hx hb hdc hq this
  · rw [hz] at hq this
    exact lv_aloadN hx hb hdc hq this

theorem sx_aload_n (hg9 : qv9 q = .null ∨ ∃ z, qv9 q = .ref z) {k : Fin 4} (F : ab_Fr q n0 y p R s m args meth c) (ho : ab_ok y pc (.aload_n k, v, w, nx, a, b, t, is) = true) (hd : ab_st1 (.aload_n k, v, w, nx, a, b, t, is) L st h = some (.inl (pc', L', st', h'))) (kk : ab_W q n0 y p l e R s m args below meth c Q pc' L' st' h') : ab_W q n0 y p l e R s m args below meth c Q pc L st h := by
  intro H locs ls hl hC hS
  obtain ⟨hx, hb, hml, hown, hts, hnm, hfr, hlo, hlv, hK, hO, hBs, hg⟩ := F
  obtain ⟨hdc, hnx, h1⟩ := ab_ok_inv ho rfl
  dsimp only [ab_len] at hdc hnx
  simp only [ab_nx] at hnx
  subst hnx
  obtain ⟨x, hx1, hd⟩ := ab_lda_inv hd
  cases hd
  have hq := ab_lr_ref hl hx1
  have := kk H locs ls hl hC hS
  simp only [List.map_cons, ab_cv] at this
  rcases ab_g_ref hg9 x with ⟨z, hz⟩ | hz
  · rw [hz] at hq this
    exact lv_aload_n hx hb hdc (Nat.eq_of_beq_eq_true h1) hq this
  · rw [hz] at hq this
    exact lv_aload_nN hx hb hdc (Nat.eq_of_beq_eq_true h1) hq this

theorem sx_istore {k : Nat} (F : ab_Fr q n0 y p R s m args meth c) (ho : ab_ok y pc (.istore k, v, w, nx, a, b, t, is) = true) (hd : ab_st1 (.istore k, v, w, nx, a, b, t, is) L st h = some (.inl (pc', L', st', h'))) (kk : ab_W q n0 y p l e R s m args below meth c Q pc' L' st' h') : ab_W q n0 y p l e R s m args below meth c Q pc L st h := by
  intro H locs ls hl hC hS
  obtain ⟨hx, hb, hml, hown, hts, hnm, hfr, hlo, hlv, hK, hO, hBs, hg⟩ := F
  obtain ⟨hdc, hnx, h1⟩ := ab_ok_inv ho rfl
  dsimp only [ab_len] at hdc hnx
  simp only [ab_nx] at hnx
  subst hnx
  obtain ⟨x, r, rfl, hd⟩ := ab_pi_inv hd
  cases hd
  simp only [ab_ok1, Bool.and_eq_true] at h1
  have hk : (k : Nat) = a := Nat.eq_of_beq_eq_true h1.1
  have ha : a < mxT y := Nat.le_of_ble_eq_true h1.2
  subst hk
  exact lv_istore hx hb hdc hl.2 ha rfl (fun ls1 hl1 => kk H locs ls1 ⟨by rw [List.length_set]; exact hl.1, ab_mono hl1 (fun z hz => ab_lv_set1 hg (Or.inl ⟨x, rfl, rfl⟩) hz)⟩ hC hS)

theorem sx_istore_n {k : Fin 4} (F : ab_Fr q n0 y p R s m args meth c) (ho : ab_ok y pc (.istore_n k, v, w, nx, a, b, t, is) = true) (hd : ab_st1 (.istore_n k, v, w, nx, a, b, t, is) L st h = some (.inl (pc', L', st', h'))) (kk : ab_W q n0 y p l e R s m args below meth c Q pc' L' st' h') : ab_W q n0 y p l e R s m args below meth c Q pc L st h := by
  intro H locs ls hl hC hS
  obtain ⟨hx, hb, hml, hown, hts, hnm, hfr, hlo, hlv, hK, hO, hBs, hg⟩ := F
  obtain ⟨hdc, hnx, h1⟩ := ab_ok_inv ho rfl
  dsimp only [ab_len] at hdc hnx
  simp only [ab_nx] at hnx
  subst hnx
  obtain ⟨x, r, rfl, hd⟩ := ab_pi_inv hd
  cases hd
  simp only [ab_ok1, Bool.and_eq_true] at h1
  have hk : (k : Nat) = a := Nat.eq_of_beq_eq_true h1.1
  have ha : a < mxT y := Nat.le_of_ble_eq_true h1.2
  skip
  exact lv_istore_n hx hb hdc hk hl.2 ha rfl (fun ls1 hl1 => kk H locs ls1 ⟨by rw [List.length_set]; exact hl.1, ab_mono hl1 (fun z hz => ab_lv_set1 hg (Or.inl ⟨x, rfl, rfl⟩) hz)⟩ hC hS)

theorem sx_astore (hg9 : qv9 q = .null ∨ ∃ z, qv9 q = .ref z) {k : Nat} (F : ab_Fr q n0 y p R s m args meth c) (ho : ab_ok y pc (.astore k, v, w, nx, a, b, t, is) = true) (hd : ab_st1 (.astore k, v, w, nx, a, b, t, is) L st h = some (.inl (pc', L', st', h'))) (kk : ab_W q n0 y p l e R s m args below meth c Q pc' L' st' h') : ab_W q n0 y p l e R s m args below meth c Q pc L st h := by
  intro H locs ls hl hC hS
  obtain ⟨hx, hb, hml, hown, hts, hnm, hfr, hlo, hlv, hK, hO, hBs, hg⟩ := F
  obtain ⟨hdc, hnx, h1⟩ := ab_ok_inv ho rfl
  dsimp only [ab_len] at hdc hnx
  simp only [ab_nx] at hnx
  subst hnx
  obtain ⟨x, r, rfl, hd⟩ := ab_pr_inv hd
  cases hd
  simp only [ab_ok1, Bool.and_eq_true] at h1
  have hk : (k : Nat) = a := Nat.eq_of_beq_eq_true h1.1
  have ha : a < mxT y := Nat.le_of_ble_eq_true h1.2
  subst hk
  simp only [List.map_cons, ab_cv]
  rcases ab_g_ref hg9 x with ⟨z, hz⟩ | hz
  · rw [hz]
    exact lv_astore hx hb hdc hl.2 ha rfl (fun ls1 hl1 => kk H locs ls1 ⟨by rw [List.length_set]; exact hl.1, ab_mono hl1 (fun u hu => ab_lv_set1 hg (Or.inr ⟨x, rfl, hz.symm⟩) hu)⟩ hC hS)
  · rw [hz]
    exact lv_astoreN hx hb hdc hl.2 ha rfl (fun ls1 hl1 => kk H locs ls1 ⟨by rw [List.length_set]; exact hl.1, ab_mono hl1 (fun u hu => ab_lv_set1 hg (Or.inr ⟨x, rfl, hz.symm⟩) hu)⟩ hC hS)

theorem sx_astore_n (hg9 : qv9 q = .null ∨ ∃ z, qv9 q = .ref z) {k : Fin 4} (F : ab_Fr q n0 y p R s m args meth c) (ho : ab_ok y pc (.astore_n k, v, w, nx, a, b, t, is) = true) (hd : ab_st1 (.astore_n k, v, w, nx, a, b, t, is) L st h = some (.inl (pc', L', st', h'))) (kk : ab_W q n0 y p l e R s m args below meth c Q pc' L' st' h') : ab_W q n0 y p l e R s m args below meth c Q pc L st h := by
  intro H locs ls hl hC hS
  obtain ⟨hx, hb, hml, hown, hts, hnm, hfr, hlo, hlv, hK, hO, hBs, hg⟩ := F
  obtain ⟨hdc, hnx, h1⟩ := ab_ok_inv ho rfl
  dsimp only [ab_len] at hdc hnx
  simp only [ab_nx] at hnx
  subst hnx
  obtain ⟨x, r, rfl, hd⟩ := ab_pr_inv hd
  cases hd
  simp only [ab_ok1, Bool.and_eq_true] at h1
  have hk : (k : Nat) = a := Nat.eq_of_beq_eq_true h1.1
  have ha : a < mxT y := Nat.le_of_ble_eq_true h1.2
  skip
  simp only [List.map_cons, ab_cv]
  rcases ab_g_ref hg9 x with ⟨z, hz⟩ | hz
  · rw [hz]
    exact lv_astore_n hx hb hdc hk hl.2 ha rfl (fun ls1 hl1 => kk H locs ls1 ⟨by rw [List.length_set]; exact hl.1, ab_mono hl1 (fun u hu => ab_lv_set1 hg (Or.inr ⟨x, rfl, hz.symm⟩) hu)⟩ hC hS)
  · rw [hz]
    exact lv_astore_nN hx hb hdc hk hl.2 ha rfl (fun ls1 hl1 => kk H locs ls1 ⟨by rw [List.length_set]; exact hl.1, ab_mono hl1 (fun u hu => ab_lv_set1 hg (Or.inr ⟨x, rfl, hz.symm⟩) hu)⟩ hC hS)

theorem sx_lstore {k : Nat} (F : ab_Fr q n0 y p R s m args meth c) (ho : ab_ok y pc (.lstore k, v, w, nx, a, b, t, is) = true) (hd : ab_st1 (.lstore k, v, w, nx, a, b, t, is) L st h = some (.inl (pc', L', st', h'))) (kk : ab_W q n0 y p l e R s m args below meth c Q pc' L' st' h') : ab_W q n0 y p l e R s m args below meth c Q pc L st h := by
  intro H locs ls hl hC hS
  obtain ⟨hx, hb, hml, hown, hts, hnm, hfr, hlo, hlv, hK, hO, hBs, hg⟩ := F
  obtain ⟨hdc, hnx, h1⟩ := ab_ok_inv ho rfl
  dsimp only [ab_len] at hdc hnx
  simp only [ab_nx] at hnx
  subst hnx
  obtain ⟨x, r, rfl, hd⟩ := ab_pl_inv hd
  cases hd
  simp only [ab_ok1, Bool.and_eq_true] at h1
  have hk : (k : Nat) = a := Nat.eq_of_beq_eq_true h1.1
  have ha : a + 1 < mxT y := Nat.le_of_ble_eq_true h1.2
  subst hk
  exact lv_lstore hx hb hdc hl.2 ha rfl (fun ls1 hl1 => kk H locs ls1 ⟨by rw [List.length_set, List.length_set]; exact hl.1, ab_mono hl1 (fun z hz => ab_lv_set2 hg (by rw [hl.1]; exact ha) hz)⟩ hC hS)

theorem sx_lstore_n {k : Fin 4} (F : ab_Fr q n0 y p R s m args meth c) (ho : ab_ok y pc (.lstore_n k, v, w, nx, a, b, t, is) = true) (hd : ab_st1 (.lstore_n k, v, w, nx, a, b, t, is) L st h = some (.inl (pc', L', st', h'))) (kk : ab_W q n0 y p l e R s m args below meth c Q pc' L' st' h') : ab_W q n0 y p l e R s m args below meth c Q pc L st h := by
  intro H locs ls hl hC hS
  obtain ⟨hx, hb, hml, hown, hts, hnm, hfr, hlo, hlv, hK, hO, hBs, hg⟩ := F
  obtain ⟨hdc, hnx, h1⟩ := ab_ok_inv ho rfl
  dsimp only [ab_len] at hdc hnx
  simp only [ab_nx] at hnx
  subst hnx
  obtain ⟨x, r, rfl, hd⟩ := ab_pl_inv hd
  cases hd
  simp only [ab_ok1, Bool.and_eq_true] at h1
  have hk : (k : Nat) = a := Nat.eq_of_beq_eq_true h1.1
  have ha : a + 1 < mxT y := Nat.le_of_ble_eq_true h1.2
  skip
  exact lv_lstore_n hx hb hdc hk hl.2 ha rfl (fun ls1 hl1 => kk H locs ls1 ⟨by rw [List.length_set, List.length_set]; exact hl.1, ab_mono hl1 (fun z hz => ab_lv_set2 hg (by rw [hl.1]; exact ha) hz)⟩ hC hS)

theorem sx_iinc {k : Nat} {n : Int} (F : ab_Fr q n0 y p R s m args meth c) (ho : ab_ok y pc (.iinc k n, v, w, nx, a, b, t, is) = true) (hd : ab_st1 (.iinc k n, v, w, nx, a, b, t, is) L st h = some (.inl (pc', L', st', h'))) (kk : ab_W q n0 y p l e R s m args below meth c Q pc' L' st' h') : ab_W q n0 y p l e R s m args below meth c Q pc L st h := by
  intro H locs ls hl hC hS
  obtain ⟨hx, hb, hml, hown, hts, hnm, hfr, hlo, hlv, hK, hO, hBs, hg⟩ := F
  obtain ⟨hdc, hnx, h1⟩ := ab_ok_inv ho rfl
  dsimp only [ab_len] at hdc hnx
  simp only [ab_nx] at hnx
  subst hnx
  obtain ⟨x, hx1, hd⟩ := ab_ldi_inv hd
  cases hd
  simp only [ab_ok1, Bool.and_eq_true, decide_eq_true_eq] at h1
  have hk : (k : Nat) = a := Nat.eq_of_beq_eq_true h1.1.1
  have ha : a < mxT y := Nat.le_of_ble_eq_true h1.1.2
  subst hk
  have hm : (k, Value.int x) ∈ ab_lv q L := ab_lv_mem.mpr (by have hx1 : L[k]? = some (some (.int x)) := hx1; simp [ab_lvf, hx1])
  obtain ⟨j, hj⟩ := List.getElem?_of_mem hm
  exact lv_iinc hx hb hdc hl.2 hj (by rw [h1.2]) ha rfl (fun ls1 hl1 => kk H locs ls1 ⟨by rw [List.length_set]; exact hl.1, ab_mono hl1 (fun z hz => ab_lv_set1 hg (Or.inl ⟨_, rfl, rfl⟩) hz)⟩ hC hS)

theorem sx_iadd (F : ab_Fr q n0 y p R s m args meth c) (ho : ab_ok y pc (.iadd, v, w, nx, a, b, t, is) = true) (hd : ab_st1 (.iadd, v, w, nx, a, b, t, is) L st h = some (.inl (pc', L', st', h'))) (kk : ab_W q n0 y p l e R s m args below meth c Q pc' L' st' h') : ab_W q n0 y p l e R s m args below meth c Q pc L st h := by
  intro H locs ls hl hC hS
  obtain ⟨hx, hb, hml, hown, hts, hnm, hfr, hlo, hlv, hK, hO, hBs, hg⟩ := F
  obtain ⟨hdc, hnx, h1⟩ := ab_ok_inv ho rfl
  dsimp only [ab_len] at hdc hnx
  simp only [ab_nx] at hnx
  subst hnx
  obtain ⟨y1, r1, rfl, hd⟩ := ab_pi_inv hd
  obtain ⟨x1, r2, rfl, hd⟩ := ab_pi_inv hd
  cases hd
  exact lv_iadd hx hb hdc (kk H locs ls hl hC hS)

theorem sx_isub (F : ab_Fr q n0 y p R s m args meth c) (ho : ab_ok y pc (.isub, v, w, nx, a, b, t, is) = true) (hd : ab_st1 (.isub, v, w, nx, a, b, t, is) L st h = some (.inl (pc', L', st', h'))) (kk : ab_W q n0 y p l e R s m args below meth c Q pc' L' st' h') : ab_W q n0 y p l e R s m args below meth c Q pc L st h := by
  intro H locs ls hl hC hS
  obtain ⟨hx, hb, hml, hown, hts, hnm, hfr, hlo, hlv, hK, hO, hBs, hg⟩ := F
  obtain ⟨hdc, hnx, h1⟩ := ab_ok_inv ho rfl
  dsimp only [ab_len] at hdc hnx
  simp only [ab_nx] at hnx
  subst hnx
  obtain ⟨y1, r1, rfl, hd⟩ := ab_pi_inv hd
  obtain ⟨x1, r2, rfl, hd⟩ := ab_pi_inv hd
  cases hd
  exact lv_isub hx hb hdc (kk H locs ls hl hC hS)

theorem sx_imul (F : ab_Fr q n0 y p R s m args meth c) (ho : ab_ok y pc (.imul, v, w, nx, a, b, t, is) = true) (hd : ab_st1 (.imul, v, w, nx, a, b, t, is) L st h = some (.inl (pc', L', st', h'))) (kk : ab_W q n0 y p l e R s m args below meth c Q pc' L' st' h') : ab_W q n0 y p l e R s m args below meth c Q pc L st h := by
  intro H locs ls hl hC hS
  obtain ⟨hx, hb, hml, hown, hts, hnm, hfr, hlo, hlv, hK, hO, hBs, hg⟩ := F
  obtain ⟨hdc, hnx, h1⟩ := ab_ok_inv ho rfl
  dsimp only [ab_len] at hdc hnx
  simp only [ab_nx] at hnx
  subst hnx
  obtain ⟨y1, r1, rfl, hd⟩ := ab_pi_inv hd
  obtain ⟨x1, r2, rfl, hd⟩ := ab_pi_inv hd
  cases hd
  exact lv_imul hx hb hdc (kk H locs ls hl hC hS)

theorem sx_iand (F : ab_Fr q n0 y p R s m args meth c) (ho : ab_ok y pc (.iand, v, w, nx, a, b, t, is) = true) (hd : ab_st1 (.iand, v, w, nx, a, b, t, is) L st h = some (.inl (pc', L', st', h'))) (kk : ab_W q n0 y p l e R s m args below meth c Q pc' L' st' h') : ab_W q n0 y p l e R s m args below meth c Q pc L st h := by
  intro H locs ls hl hC hS
  obtain ⟨hx, hb, hml, hown, hts, hnm, hfr, hlo, hlv, hK, hO, hBs, hg⟩ := F
  obtain ⟨hdc, hnx, h1⟩ := ab_ok_inv ho rfl
  dsimp only [ab_len] at hdc hnx
  simp only [ab_nx] at hnx
  subst hnx
  obtain ⟨y1, r1, rfl, hd⟩ := ab_pi_inv hd
  obtain ⟨x1, r2, rfl, hd⟩ := ab_pi_inv hd
  cases hd
  exact lv_iand hx hb hdc (kk H locs ls hl hC hS)

theorem sx_ior (F : ab_Fr q n0 y p R s m args meth c) (ho : ab_ok y pc (.ior, v, w, nx, a, b, t, is) = true) (hd : ab_st1 (.ior, v, w, nx, a, b, t, is) L st h = some (.inl (pc', L', st', h'))) (kk : ab_W q n0 y p l e R s m args below meth c Q pc' L' st' h') : ab_W q n0 y p l e R s m args below meth c Q pc L st h := by
  intro H locs ls hl hC hS
  obtain ⟨hx, hb, hml, hown, hts, hnm, hfr, hlo, hlv, hK, hO, hBs, hg⟩ := F
  obtain ⟨hdc, hnx, h1⟩ := ab_ok_inv ho rfl
  dsimp only [ab_len] at hdc hnx
  simp only [ab_nx] at hnx
  subst hnx
  obtain ⟨y1, r1, rfl, hd⟩ := ab_pi_inv hd
  obtain ⟨x1, r2, rfl, hd⟩ := ab_pi_inv hd
  cases hd
  exact lv_ior hx hb hdc (kk H locs ls hl hC hS)

theorem sx_ixor (F : ab_Fr q n0 y p R s m args meth c) (ho : ab_ok y pc (.ixor, v, w, nx, a, b, t, is) = true) (hd : ab_st1 (.ixor, v, w, nx, a, b, t, is) L st h = some (.inl (pc', L', st', h'))) (kk : ab_W q n0 y p l e R s m args below meth c Q pc' L' st' h') : ab_W q n0 y p l e R s m args below meth c Q pc L st h := by
  intro H locs ls hl hC hS
  obtain ⟨hx, hb, hml, hown, hts, hnm, hfr, hlo, hlv, hK, hO, hBs, hg⟩ := F
  obtain ⟨hdc, hnx, h1⟩ := ab_ok_inv ho rfl
  dsimp only [ab_len] at hdc hnx
  simp only [ab_nx] at hnx
  subst hnx
  obtain ⟨y1, r1, rfl, hd⟩ := ab_pi_inv hd
  obtain ⟨x1, r2, rfl, hd⟩ := ab_pi_inv hd
  cases hd
  exact lv_ixor hx hb hdc (kk H locs ls hl hC hS)

theorem sx_ishl (F : ab_Fr q n0 y p R s m args meth c) (ho : ab_ok y pc (.ishl, v, w, nx, a, b, t, is) = true) (hd : ab_st1 (.ishl, v, w, nx, a, b, t, is) L st h = some (.inl (pc', L', st', h'))) (kk : ab_W q n0 y p l e R s m args below meth c Q pc' L' st' h') : ab_W q n0 y p l e R s m args below meth c Q pc L st h := by
  intro H locs ls hl hC hS
  obtain ⟨hx, hb, hml, hown, hts, hnm, hfr, hlo, hlv, hK, hO, hBs, hg⟩ := F
  obtain ⟨hdc, hnx, h1⟩ := ab_ok_inv ho rfl
  dsimp only [ab_len] at hdc hnx
  simp only [ab_nx] at hnx
  subst hnx
  obtain ⟨y1, r1, rfl, hd⟩ := ab_pi_inv hd
  obtain ⟨x1, r2, rfl, hd⟩ := ab_pi_inv hd
  cases hd
  exact lv_ishl hx hb hdc (kk H locs ls hl hC hS)

theorem sx_ishr (F : ab_Fr q n0 y p R s m args meth c) (ho : ab_ok y pc (.ishr, v, w, nx, a, b, t, is) = true) (hd : ab_st1 (.ishr, v, w, nx, a, b, t, is) L st h = some (.inl (pc', L', st', h'))) (kk : ab_W q n0 y p l e R s m args below meth c Q pc' L' st' h') : ab_W q n0 y p l e R s m args below meth c Q pc L st h := by
  intro H locs ls hl hC hS
  obtain ⟨hx, hb, hml, hown, hts, hnm, hfr, hlo, hlv, hK, hO, hBs, hg⟩ := F
  obtain ⟨hdc, hnx, h1⟩ := ab_ok_inv ho rfl
  dsimp only [ab_len] at hdc hnx
  simp only [ab_nx] at hnx
  subst hnx
  obtain ⟨y1, r1, rfl, hd⟩ := ab_pi_inv hd
  obtain ⟨x1, r2, rfl, hd⟩ := ab_pi_inv hd
  cases hd
  exact lv_ishr hx hb hdc (kk H locs ls hl hC hS)

theorem sx_iushr (F : ab_Fr q n0 y p R s m args meth c) (ho : ab_ok y pc (.iushr, v, w, nx, a, b, t, is) = true) (hd : ab_st1 (.iushr, v, w, nx, a, b, t, is) L st h = some (.inl (pc', L', st', h'))) (kk : ab_W q n0 y p l e R s m args below meth c Q pc' L' st' h') : ab_W q n0 y p l e R s m args below meth c Q pc L st h := by
  intro H locs ls hl hC hS
  obtain ⟨hx, hb, hml, hown, hts, hnm, hfr, hlo, hlv, hK, hO, hBs, hg⟩ := F
  obtain ⟨hdc, hnx, h1⟩ := ab_ok_inv ho rfl
  dsimp only [ab_len] at hdc hnx
  simp only [ab_nx] at hnx
  subst hnx
  obtain ⟨y1, r1, rfl, hd⟩ := ab_pi_inv hd
  obtain ⟨x1, r2, rfl, hd⟩ := ab_pi_inv hd
  cases hd
  exact lv_iushr hx hb hdc rfl (kk H locs ls hl hC hS)

theorem sx_idiv (F : ab_Fr q n0 y p R s m args meth c) (ho : ab_ok y pc (.idiv, v, w, nx, a, b, t, is) = true) (hd : ab_st1 (.idiv, v, w, nx, a, b, t, is) L st h = some (.inl (pc', L', st', h'))) (kk : ab_W q n0 y p l e R s m args below meth c Q pc' L' st' h') : ab_W q n0 y p l e R s m args below meth c Q pc L st h := by
  intro H locs ls hl hC hS
  obtain ⟨hx, hb, hml, hown, hts, hnm, hfr, hlo, hlv, hK, hO, hBs, hg⟩ := F
  obtain ⟨hdc, hnx, h1⟩ := ab_ok_inv ho rfl
  dsimp only [ab_len] at hdc hnx
  simp only [ab_nx] at hnx
  subst hnx
  obtain ⟨y1, r1, rfl, hd⟩ := ab_pi_inv hd
  obtain ⟨x1, r2, rfl, hd⟩ := ab_pi_inv hd
  rcases ab_ite_inv hd with ⟨_, hd⟩ | ⟨hne, hd⟩
  · cases hd
  · cases hd
    exact lv_idiv hx hb hdc hne (kk H locs ls hl hC hS)

theorem sx_irem (F : ab_Fr q n0 y p R s m args meth c) (ho : ab_ok y pc (.irem, v, w, nx, a, b, t, is) = true) (hd : ab_st1 (.irem, v, w, nx, a, b, t, is) L st h = some (.inl (pc', L', st', h'))) (kk : ab_W q n0 y p l e R s m args below meth c Q pc' L' st' h') : ab_W q n0 y p l e R s m args below meth c Q pc L st h := by
  intro H locs ls hl hC hS
  obtain ⟨hx, hb, hml, hown, hts, hnm, hfr, hlo, hlv, hK, hO, hBs, hg⟩ := F
  obtain ⟨hdc, hnx, h1⟩ := ab_ok_inv ho rfl
  dsimp only [ab_len] at hdc hnx
  simp only [ab_nx] at hnx
  subst hnx
  obtain ⟨y1, r1, rfl, hd⟩ := ab_pi_inv hd
  obtain ⟨x1, r2, rfl, hd⟩ := ab_pi_inv hd
  rcases ab_ite_inv hd with ⟨_, hd⟩ | ⟨hne, hd⟩
  · cases hd
  · cases hd
    exact lv_irem hx hb hdc hne (kk H locs ls hl hC hS)

theorem sx_ladd (F : ab_Fr q n0 y p R s m args meth c) (ho : ab_ok y pc (.ladd, v, w, nx, a, b, t, is) = true) (hd : ab_st1 (.ladd, v, w, nx, a, b, t, is) L st h = some (.inl (pc', L', st', h'))) (kk : ab_W q n0 y p l e R s m args below meth c Q pc' L' st' h') : ab_W q n0 y p l e R s m args below meth c Q pc L st h := by
  intro H locs ls hl hC hS
  obtain ⟨hx, hb, hml, hown, hts, hnm, hfr, hlo, hlv, hK, hO, hBs, hg⟩ := F
  obtain ⟨hdc, hnx, h1⟩ := ab_ok_inv ho rfl
  dsimp only [ab_len] at hdc hnx
  simp only [ab_nx] at hnx
  subst hnx
  obtain ⟨y1, r1, rfl, hd⟩ := ab_pl_inv hd
  obtain ⟨x1, r2, rfl, hd⟩ := ab_pl_inv hd
  cases hd
  exact lv_ladd hx hb hdc (kk H locs ls hl hC hS)

theorem sx_lmul (F : ab_Fr q n0 y p R s m args meth c) (ho : ab_ok y pc (.lmul, v, w, nx, a, b, t, is) = true) (hd : ab_st1 (.lmul, v, w, nx, a, b, t, is) L st h = some (.inl (pc', L', st', h'))) (kk : ab_W q n0 y p l e R s m args below meth c Q pc' L' st' h') : ab_W q n0 y p l e R s m args below meth c Q pc L st h := by
  intro H locs ls hl hC hS
  obtain ⟨hx, hb, hml, hown, hts, hnm, hfr, hlo, hlv, hK, hO, hBs, hg⟩ := F
  obtain ⟨hdc, hnx, h1⟩ := ab_ok_inv ho rfl
  dsimp only [ab_len] at hdc hnx
  simp only [ab_nx] at hnx
  subst hnx
  obtain ⟨y1, r1, rfl, hd⟩ := ab_pl_inv hd
  obtain ⟨x1, r2, rfl, hd⟩ := ab_pl_inv hd
  cases hd
  exact lv_lmul hx hb hdc (kk H locs ls hl hC hS)

theorem sx_ldiv (F : ab_Fr q n0 y p R s m args meth c) (ho : ab_ok y pc (.ldiv, v, w, nx, a, b, t, is) = true) (hd : ab_st1 (.ldiv, v, w, nx, a, b, t, is) L st h = some (.inl (pc', L', st', h'))) (kk : ab_W q n0 y p l e R s m args below meth c Q pc' L' st' h') : ab_W q n0 y p l e R s m args below meth c Q pc L st h := by
  intro H locs ls hl hC hS
  obtain ⟨hx, hb, hml, hown, hts, hnm, hfr, hlo, hlv, hK, hO, hBs, hg⟩ := F
  obtain ⟨hdc, hnx, h1⟩ := ab_ok_inv ho rfl
  dsimp only [ab_len] at hdc hnx
  simp only [ab_nx] at hnx
  subst hnx
  obtain ⟨y1, r1, rfl, hd⟩ := ab_pl_inv hd
  obtain ⟨x1, r2, rfl, hd⟩ := ab_pl_inv hd
  rcases ab_ite_inv hd with ⟨_, hd⟩ | ⟨hne, hd⟩
  · cases hd
  · cases hd
    exact lv_ldiv hx hb hdc hne (kk H locs ls hl hC hS)

theorem sx_lrem (F : ab_Fr q n0 y p R s m args meth c) (ho : ab_ok y pc (.lrem, v, w, nx, a, b, t, is) = true) (hd : ab_st1 (.lrem, v, w, nx, a, b, t, is) L st h = some (.inl (pc', L', st', h'))) (kk : ab_W q n0 y p l e R s m args below meth c Q pc' L' st' h') : ab_W q n0 y p l e R s m args below meth c Q pc L st h := by
  intro H locs ls hl hC hS
  obtain ⟨hx, hb, hml, hown, hts, hnm, hfr, hlo, hlv, hK, hO, hBs, hg⟩ := F
  obtain ⟨hdc, hnx, h1⟩ := ab_ok_inv ho rfl
  dsimp only [ab_len] at hdc hnx
  simp only [ab_nx] at hnx
  subst hnx
  obtain ⟨y1, r1, rfl, hd⟩ := ab_pl_inv hd
  obtain ⟨x1, r2, rfl, hd⟩ := ab_pl_inv hd
  rcases ab_ite_inv hd with ⟨_, hd⟩ | ⟨hne, hd⟩
  · cases hd
  · cases hd
    exact lv_lrem hx hb hdc hne (kk H locs ls hl hC hS)

theorem sx_lcmp (F : ab_Fr q n0 y p R s m args meth c) (ho : ab_ok y pc (.lcmp, v, w, nx, a, b, t, is) = true) (hd : ab_st1 (.lcmp, v, w, nx, a, b, t, is) L st h = some (.inl (pc', L', st', h'))) (kk : ab_W q n0 y p l e R s m args below meth c Q pc' L' st' h') : ab_W q n0 y p l e R s m args below meth c Q pc L st h := by
  intro H locs ls hl hC hS
  obtain ⟨hx, hb, hml, hown, hts, hnm, hfr, hlo, hlv, hK, hO, hBs, hg⟩ := F
  obtain ⟨hdc, hnx, h1⟩ := ab_ok_inv ho rfl
  dsimp only [ab_len] at hdc hnx
  simp only [ab_nx] at hnx
  subst hnx
  obtain ⟨y1, r1, rfl, hd⟩ := ab_pl_inv hd
  obtain ⟨x1, r2, rfl, hd⟩ := ab_pl_inv hd
  cases hd
  exact W.lcmp hx hb hdc (kk H locs ls hl hC hS)

theorem sx_i2l (F : ab_Fr q n0 y p R s m args meth c) (ho : ab_ok y pc (.i2l, v, w, nx, a, b, t, is) = true) (hd : ab_st1 (.i2l, v, w, nx, a, b, t, is) L st h = some (.inl (pc', L', st', h'))) (kk : ab_W q n0 y p l e R s m args below meth c Q pc' L' st' h') : ab_W q n0 y p l e R s m args below meth c Q pc L st h := by
  intro H locs ls hl hC hS
  obtain ⟨hx, hb, hml, hown, hts, hnm, hfr, hlo, hlv, hK, hO, hBs, hg⟩ := F
  obtain ⟨hdc, hnx, h1⟩ := ab_ok_inv ho rfl
  dsimp only [ab_len] at hdc hnx
  simp only [ab_nx] at hnx
  subst hnx
  obtain ⟨x1, r2, rfl, hd⟩ := ab_pi_inv hd
  cases hd
  exact lv_i2l hx hb hdc rfl (kk H locs ls hl hC hS)

theorem sx_l2i (F : ab_Fr q n0 y p R s m args meth c) (ho : ab_ok y pc (.l2i, v, w, nx, a, b, t, is) = true) (hd : ab_st1 (.l2i, v, w, nx, a, b, t, is) L st h = some (.inl (pc', L', st', h'))) (kk : ab_W q n0 y p l e R s m args below meth c Q pc' L' st' h') : ab_W q n0 y p l e R s m args below meth c Q pc L st h := by
  intro H locs ls hl hC hS
  obtain ⟨hx, hb, hml, hown, hts, hnm, hfr, hlo, hlv, hK, hO, hBs, hg⟩ := F
  obtain ⟨hdc, hnx, h1⟩ := ab_ok_inv ho rfl
  dsimp only [ab_len] at hdc hnx
  simp only [ab_nx] at hnx
  subst hnx
  obtain ⟨x1, r2, rfl, hd⟩ := ab_pl_inv hd
  cases hd
  exact lv_l2i hx hb hdc rfl (kk H locs ls hl hC hS)

theorem sx_i2b (F : ab_Fr q n0 y p R s m args meth c) (ho : ab_ok y pc (.i2b, v, w, nx, a, b, t, is) = true) (hd : ab_st1 (.i2b, v, w, nx, a, b, t, is) L st h = some (.inl (pc', L', st', h'))) (kk : ab_W q n0 y p l e R s m args below meth c Q pc' L' st' h') : ab_W q n0 y p l e R s m args below meth c Q pc L st h := by
  intro H locs ls hl hC hS
  obtain ⟨hx, hb, hml, hown, hts, hnm, hfr, hlo, hlv, hK, hO, hBs, hg⟩ := F
  obtain ⟨hdc, hnx, h1⟩ := ab_ok_inv ho rfl
  dsimp only [ab_len] at hdc hnx
  simp only [ab_nx] at hnx
  subst hnx
  obtain ⟨x1, r2, rfl, hd⟩ := ab_pi_inv hd
  cases hd
  exact lv_i2b hx hb hdc rfl (kk H locs ls hl hC hS)

theorem sx_i2c (F : ab_Fr q n0 y p R s m args meth c) (ho : ab_ok y pc (.i2c, v, w, nx, a, b, t, is) = true) (hd : ab_st1 (.i2c, v, w, nx, a, b, t, is) L st h = some (.inl (pc', L', st', h'))) (kk : ab_W q n0 y p l e R s m args below meth c Q pc' L' st' h') : ab_W q n0 y p l e R s m args below meth c Q pc L st h := by
  intro H locs ls hl hC hS
  obtain ⟨hx, hb, hml, hown, hts, hnm, hfr, hlo, hlv, hK, hO, hBs, hg⟩ := F
  obtain ⟨hdc, hnx, h1⟩ := ab_ok_inv ho rfl
  dsimp only [ab_len] at hdc hnx
  simp only [ab_nx] at hnx
  subst hnx
  obtain ⟨x1, r2, rfl, hd⟩ := ab_pi_inv hd
  cases hd
  exact lv_i2c hx hb hdc rfl (kk H locs ls hl hC hS)

theorem sx_pop (F : ab_Fr q n0 y p R s m args meth c) (ho : ab_ok y pc (.pop, v, w, nx, a, b, t, is) = true) (hd : ab_st1 (.pop, v, w, nx, a, b, t, is) L st h = some (.inl (pc', L', st', h'))) (kk : ab_W q n0 y p l e R s m args below meth c Q pc' L' st' h') : ab_W q n0 y p l e R s m args below meth c Q pc L st h := by
  intro H locs ls hl hC hS
  obtain ⟨hx, hb, hml, hown, hts, hnm, hfr, hlo, hlv, hK, hO, hBs, hg⟩ := F
  obtain ⟨hdc, hnx, h1⟩ := ab_ok_inv ho rfl
  dsimp only [ab_len] at hdc hnx
  simp only [ab_nx] at hnx
  subst hnx
  obtain ⟨x1, r2, rfl, hd⟩ := ab_pi_inv hd
  cases hd
  exact lv_pop hx hb hdc rfl (kk H locs ls hl hC hS)

theorem sx_goto {o : Int} (F : ab_Fr q n0 y p R s m args meth c) (ho : ab_ok y pc (.goto o, v, w, nx, a, b, t, is) = true) (hd : ab_st1 (.goto o, v, w, nx, a, b, t, is) L st h = some (.inl (pc', L', st', h'))) (kk : ab_W q n0 y p l e R s m args below meth c Q pc' L' st' h') : ab_W q n0 y p l e R s m args below meth c Q pc L st h := by
  intro H locs ls hl hC hS
  obtain ⟨hx, hb, hml, hown, hts, hnm, hfr, hlo, hlv, hK, hO, hBs, hg⟩ := F
  obtain ⟨hdc, hnx, h1⟩ := ab_ok_inv ho rfl
  dsimp only [ab_len] at hdc hnx
  simp only [ab_nx] at hnx
  subst hnx
  cases hd
  exact lv_goto hx hb hdc (of_decide_eq_true h1) (kk H locs ls hl hC hS)

theorem sx_if_eq {o : Int} (F : ab_Fr q n0 y p R s m args meth c) (ho : ab_ok y pc (.ifCond .eq o, v, w, nx, a, b, t, is) = true) (hd : ab_st1 (.ifCond .eq o, v, w, nx, a, b, t, is) L st h = some (.inl (pc', L', st', h'))) (kk : ab_W q n0 y p l e R s m args below meth c Q pc' L' st' h') : ab_W q n0 y p l e R s m args below meth c Q pc L st h := by
  intro H locs ls hl hC hS
  obtain ⟨hx, hb, hml, hown, hts, hnm, hfr, hlo, hlv, hK, hO, hBs, hg⟩ := F
  obtain ⟨hdc, hnx, h1⟩ := ab_ok_inv ho rfl
  dsimp only [ab_len] at hdc hnx
  simp only [ab_nx] at hnx
  subst hnx
  obtain ⟨x1, r1, rfl, hd⟩ := ab_pi_inv hd
  rcases ab_ite_inv hd with ⟨hc, hd⟩ | ⟨hc, hd⟩
  · cases hd
    exact lv_if_eq hx hb hdc (of_decide_eq_true h1) (fun _ => kk H locs ls hl hC hS) (fun z => absurd hc z)
  · cases hd
    exact lv_if_eq hx hb hdc (of_decide_eq_true h1) (fun z => absurd z hc) (fun _ => kk H locs ls hl hC hS)

theorem sx_icmp_eq {o : Int} (F : ab_Fr q n0 y p R s m args meth c) (ho : ab_ok y pc (.if_icmp .eq o, v, w, nx, a, b, t, is) = true) (hd : ab_st1 (.if_icmp .eq o, v, w, nx, a, b, t, is) L st h = some (.inl (pc', L', st', h'))) (kk : ab_W q n0 y p l e R s m args below meth c Q pc' L' st' h') : ab_W q n0 y p l e R s m args below meth c Q pc L st h := by
  intro H locs ls hl hC hS
  obtain ⟨hx, hb, hml, hown, hts, hnm, hfr, hlo, hlv, hK, hO, hBs, hg⟩ := F
  obtain ⟨hdc, hnx, h1⟩ := ab_ok_inv ho rfl
  dsimp only [ab_len] at hdc hnx
  simp only [ab_nx] at hnx
  subst hnx
  obtain ⟨y1, r1, rfl, hd⟩ := ab_pi_inv hd
  obtain ⟨x1, r2, rfl, hd⟩ := ab_pi_inv hd
  rcases ab_ite_inv hd with ⟨hc, hd⟩ | ⟨hc, hd⟩
  · cases hd
    exact lv_icmp_eq hx hb hdc (of_decide_eq_true h1) (fun _ => kk H locs ls hl hC hS) (fun z => absurd hc z)
  · cases hd
    exact lv_icmp_eq hx hb hdc (of_decide_eq_true h1) (fun z => absurd z hc) (fun _ => kk H locs ls hl hC hS)

theorem sx_if_ne {o : Int} (F : ab_Fr q n0 y p R s m args meth c) (ho : ab_ok y pc (.ifCond .ne o, v, w, nx, a, b, t, is) = true) (hd : ab_st1 (.ifCond .ne o, v, w, nx, a, b, t, is) L st h = some (.inl (pc', L', st', h'))) (kk : ab_W q n0 y p l e R s m args below meth c Q pc' L' st' h') : ab_W q n0 y p l e R s m args below meth c Q pc L st h := by
  intro H locs ls hl hC hS
  obtain ⟨hx, hb, hml, hown, hts, hnm, hfr, hlo, hlv, hK, hO, hBs, hg⟩ := F
  obtain ⟨hdc, hnx, h1⟩ := ab_ok_inv ho rfl
  dsimp only [ab_len] at hdc hnx
  simp only [ab_nx] at hnx
  subst hnx
  obtain ⟨x1, r1, rfl, hd⟩ := ab_pi_inv hd
  rcases ab_ite_inv hd with ⟨hc, hd⟩ | ⟨hc, hd⟩
  · cases hd
    exact lv_if_ne hx hb hdc (of_decide_eq_true h1) (fun z => absurd hc z) (fun _ => kk H locs ls hl hC hS)
  · cases hd
    exact lv_if_ne hx hb hdc (of_decide_eq_true h1) (fun _ => kk H locs ls hl hC hS) (fun z => absurd z hc)

theorem sx_icmp_ne {o : Int} (F : ab_Fr q n0 y p R s m args meth c) (ho : ab_ok y pc (.if_icmp .ne o, v, w, nx, a, b, t, is) = true) (hd : ab_st1 (.if_icmp .ne o, v, w, nx, a, b, t, is) L st h = some (.inl (pc', L', st', h'))) (kk : ab_W q n0 y p l e R s m args below meth c Q pc' L' st' h') : ab_W q n0 y p l e R s m args below meth c Q pc L st h := by
  intro H locs ls hl hC hS
  obtain ⟨hx, hb, hml, hown, hts, hnm, hfr, hlo, hlv, hK, hO, hBs, hg⟩ := F
  obtain ⟨hdc, hnx, h1⟩ := ab_ok_inv ho rfl
  dsimp only [ab_len] at hdc hnx
  simp only [ab_nx] at hnx
  subst hnx
  obtain ⟨y1, r1, rfl, hd⟩ := ab_pi_inv hd
  obtain ⟨x1, r2, rfl, hd⟩ := ab_pi_inv hd
  rcases ab_ite_inv hd with ⟨hc, hd⟩ | ⟨hc, hd⟩
  · cases hd
    exact lv_icmp_ne hx hb hdc (of_decide_eq_true h1) (fun z => absurd hc z) (fun _ => kk H locs ls hl hC hS)
  · cases hd
    exact lv_icmp_ne hx hb hdc (of_decide_eq_true h1) (fun _ => kk H locs ls hl hC hS) (fun z => absurd z hc)

theorem sx_if_lt {o : Int} (F : ab_Fr q n0 y p R s m args meth c) (ho : ab_ok y pc (.ifCond .lt o, v, w, nx, a, b, t, is) = true) (hd : ab_st1 (.ifCond .lt o, v, w, nx, a, b, t, is) L st h = some (.inl (pc', L', st', h'))) (kk : ab_W q n0 y p l e R s m args below meth c Q pc' L' st' h') : ab_W q n0 y p l e R s m args below meth c Q pc L st h := by
  intro H locs ls hl hC hS
  obtain ⟨hx, hb, hml, hown, hts, hnm, hfr, hlo, hlv, hK, hO, hBs, hg⟩ := F
  obtain ⟨hdc, hnx, h1⟩ := ab_ok_inv ho rfl
  dsimp only [ab_len] at hdc hnx
  simp only [ab_nx] at hnx
  subst hnx
  obtain ⟨x1, r1, rfl, hd⟩ := ab_pi_inv hd
  rcases ab_ite_inv hd with ⟨hc, hd⟩ | ⟨hc, hd⟩
  · cases hd
    exact lv_if_lt hx hb hdc (of_decide_eq_true h1) (fun _ => kk H locs ls hl hC hS) (fun z => absurd hc z)
  · cases hd
    exact lv_if_lt hx hb hdc (of_decide_eq_true h1) (fun z => absurd z hc) (fun _ => kk H locs ls hl hC hS)

theorem sx_icmp_lt {o : Int} (F : ab_Fr q n0 y p R s m args meth c) (ho : ab_ok y pc (.if_icmp .lt o, v, w, nx, a, b, t, is) = true) (hd : ab_st1 (.if_icmp .lt o, v, w, nx, a, b, t, is) L st h = some (.inl (pc', L', st', h'))) (kk : ab_W q n0 y p l e R s m args below meth c Q pc' L' st' h') : ab_W q n0 y p l e R s m args below meth c Q pc L st h := by
  intro H locs ls hl hC hS
  obtain ⟨hx, hb, hml, hown, hts, hnm, hfr, hlo, hlv, hK, hO, hBs, hg⟩ := F
  obtain ⟨hdc, hnx, h1⟩ := ab_ok_inv ho rfl
  dsimp only [ab_len] at hdc hnx
  simp only [ab_nx] at hnx
  subst hnx
  obtain ⟨y1, r1, rfl, hd⟩ := ab_pi_inv hd
  obtain ⟨x1, r2, rfl, hd⟩ := ab_pi_inv hd
  rcases ab_ite_inv hd with ⟨hc, hd⟩ | ⟨hc, hd⟩
  · cases hd
    exact lv_icmp_lt hx hb hdc (of_decide_eq_true h1) (fun _ => kk H locs ls hl hC hS) (fun z => absurd hc z)
  · cases hd
    exact lv_icmp_lt hx hb hdc (of_decide_eq_true h1) (fun z => absurd z hc) (fun _ => kk H locs ls hl hC hS)

theorem sx_if_ge {o : Int} (F : ab_Fr q n0 y p R s m args meth c) (ho : ab_ok y pc (.ifCond .ge o, v, w, nx, a, b, t, is) = true) (hd : ab_st1 (.ifCond .ge o, v, w, nx, a, b, t, is) L st h = some (.inl (pc', L', st', h'))) (kk : ab_W q n0 y p l e R s m args below meth c Q pc' L' st' h') : ab_W q n0 y p l e R s m args below meth c Q pc L st h := by
  intro H locs ls hl hC hS
  obtain ⟨hx, hb, hml, hown, hts, hnm, hfr, hlo, hlv, hK, hO, hBs, hg⟩ := F
  obtain ⟨hdc, hnx, h1⟩ := ab_ok_inv ho rfl
  dsimp only [ab_len] at hdc hnx
  simp only [ab_nx] at hnx
  subst hnx
  obtain ⟨x1, r1, rfl, hd⟩ := ab_pi_inv hd
  rcases ab_ite_inv hd with ⟨hc, hd⟩ | ⟨hc, hd⟩
  · cases hd
    exact lv_if_ge hx hb hdc (of_decide_eq_true h1) (fun _ => kk H locs ls hl hC hS) (fun z => absurd hc z)
  · cases hd
    exact lv_if_ge hx hb hdc (of_decide_eq_true h1) (fun z => absurd z hc) (fun _ => kk H locs ls hl hC hS)

theorem sx_icmp_ge {o : Int} (F : ab_Fr q n0 y p R s m args meth c) (ho : ab_ok y pc (.if_icmp .ge o, v, w, nx, a, b, t, is) = true) (hd : ab_st1 (.if_icmp .ge o, v, w, nx, a, b, t, is) L st h = some (.inl (pc', L', st', h'))) (kk : ab_W q n0 y p l e R s m args below meth c Q pc' L' st' h') : ab_W q n0 y p l e R s m args below meth c Q pc L st h := by
  intro H locs ls hl hC hS
  obtain ⟨hx, hb, hml, hown, hts, hnm, hfr, hlo, hlv, hK, hO, hBs, hg⟩ := F
  obtain ⟨hdc, hnx, h1⟩ := ab_ok_inv ho rfl
  dsimp only [ab_len] at hdc hnx
  simp only [ab_nx] at hnx
  subst hnx
  obtain ⟨y1, r1, rfl, hd⟩ := ab_pi_inv hd
  obtain ⟨x1, r2, rfl, hd⟩ := ab_pi_inv hd
  rcases ab_ite_inv hd with ⟨hc, hd⟩ | ⟨hc, hd⟩
  · cases hd
    exact lv_icmp_ge hx hb hdc (of_decide_eq_true h1) (fun _ => kk H locs ls hl hC hS) (fun z => absurd hc z)
  · cases hd
    exact lv_icmp_ge hx hb hdc (of_decide_eq_true h1) (fun z => absurd z hc) (fun _ => kk H locs ls hl hC hS)

theorem sx_if_gt {o : Int} (F : ab_Fr q n0 y p R s m args meth c) (ho : ab_ok y pc (.ifCond .gt o, v, w, nx, a, b, t, is) = true) (hd : ab_st1 (.ifCond .gt o, v, w, nx, a, b, t, is) L st h = some (.inl (pc', L', st', h'))) (kk : ab_W q n0 y p l e R s m args below meth c Q pc' L' st' h') : ab_W q n0 y p l e R s m args below meth c Q pc L st h := by
  intro H locs ls hl hC hS
  obtain ⟨hx, hb, hml, hown, hts, hnm, hfr, hlo, hlv, hK, hO, hBs, hg⟩ := F
  obtain ⟨hdc, hnx, h1⟩ := ab_ok_inv ho rfl
  dsimp only [ab_len] at hdc hnx
  simp only [ab_nx] at hnx
  subst hnx
  obtain ⟨x1, r1, rfl, hd⟩ := ab_pi_inv hd
  rcases ab_ite_inv hd with ⟨hc, hd⟩ | ⟨hc, hd⟩
  · cases hd
    exact lv_if_gt hx hb hdc (of_decide_eq_true h1) (fun _ => kk H locs ls hl hC hS) (fun z => absurd hc z)
  · cases hd
    exact lv_if_gt hx hb hdc (of_decide_eq_true h1) (fun z => absurd z hc) (fun _ => kk H locs ls hl hC hS)

theorem sx_icmp_gt {o : Int} (F : ab_Fr q n0 y p R s m args meth c) (ho : ab_ok y pc (.if_icmp .gt o, v, w, nx, a, b, t, is) = true) (hd : ab_st1 (.if_icmp .gt o, v, w, nx, a, b, t, is) L st h = some (.inl (pc', L', st', h'))) (kk : ab_W q n0 y p l e R s m args below meth c Q pc' L' st' h') : ab_W q n0 y p l e R s m args below meth c Q pc L st h := by
  intro H locs ls hl hC hS
  obtain ⟨hx, hb, hml, hown, hts, hnm, hfr, hlo, hlv, hK, hO, hBs, hg⟩ := F
  obtain ⟨hdc, hnx, h1⟩ := ab_ok_inv ho rfl
  dsimp only [ab_len] at hdc hnx
  simp only [ab_nx] at hnx
  subst hnx
  obtain ⟨y1, r1, rfl, hd⟩ := ab_pi_inv hd
  obtain ⟨x1, r2, rfl, hd⟩ := ab_pi_inv hd
  rcases ab_ite_inv hd with ⟨hc, hd⟩ | ⟨hc, hd⟩
  · cases hd
    exact lv_icmp_gt hx hb hdc (of_decide_eq_true h1) (fun _ => kk H locs ls hl hC hS) (fun z => absurd hc z)
  · cases hd
    exact lv_icmp_gt hx hb hdc (of_decide_eq_true h1) (fun z => absurd z hc) (fun _ => kk H locs ls hl hC hS)

theorem sx_if_le {o : Int} (F : ab_Fr q n0 y p R s m args meth c) (ho : ab_ok y pc (.ifCond .le o, v, w, nx, a, b, t, is) = true) (hd : ab_st1 (.ifCond .le o, v, w, nx, a, b, t, is) L st h = some (.inl (pc', L', st', h'))) (kk : ab_W q n0 y p l e R s m args below meth c Q pc' L' st' h') : ab_W q n0 y p l e R s m args below meth c Q pc L st h := by
  intro H locs ls hl hC hS
  obtain ⟨hx, hb, hml, hown, hts, hnm, hfr, hlo, hlv, hK, hO, hBs, hg⟩ := F
  obtain ⟨hdc, hnx, h1⟩ := ab_ok_inv ho rfl
  dsimp only [ab_len] at hdc hnx
  simp only [ab_nx] at hnx
  subst hnx
  obtain ⟨x1, r1, rfl, hd⟩ := ab_pi_inv hd
  rcases ab_ite_inv hd with ⟨hc, hd⟩ | ⟨hc, hd⟩
  · cases hd
    exact lv_if_le hx hb hdc (of_decide_eq_true h1) (fun _ => kk H locs ls hl hC hS) (fun z => absurd hc z)
  · cases hd
    exact lv_if_le hx hb hdc (of_decide_eq_true h1) (fun z => absurd z hc) (fun _ => kk H locs ls hl hC hS)

theorem sx_icmp_le {o : Int} (F : ab_Fr q n0 y p R s m args meth c) (ho : ab_ok y pc (.if_icmp .le o, v, w, nx, a, b, t, is) = true) (hd : ab_st1 (.if_icmp .le o, v, w, nx, a, b, t, is) L st h = some (.inl (pc', L', st', h'))) (kk : ab_W q n0 y p l e R s m args below meth c Q pc' L' st' h') : ab_W q n0 y p l e R s m args below meth c Q pc L st h := by
  intro H locs ls hl hC hS
  obtain ⟨hx, hb, hml, hown, hts, hnm, hfr, hlo, hlv, hK, hO, hBs, hg⟩ := F
  obtain ⟨hdc, hnx, h1⟩ := ab_ok_inv ho rfl
  dsimp only [ab_len] at hdc hnx
  simp only [ab_nx] at hnx
  subst hnx
  obtain ⟨y1, r1, rfl, hd⟩ := ab_pi_inv hd
  obtain ⟨x1, r2, rfl, hd⟩ := ab_pi_inv hd
  rcases ab_ite_inv hd with ⟨hc, hd⟩ | ⟨hc, hd⟩
  · cases hd
    exact lv_icmp_le hx hb hdc (of_decide_eq_true h1) (fun _ => kk H locs ls hl hC hS) (fun z => absurd hc z)
  · cases hd
    exact lv_icmp_le hx hb hdc (of_decide_eq_true h1) (fun z => absurd z hc) (fun _ => kk H locs ls hl hC hS)

theorem sx_dup (F : ab_Fr q n0 y p R s m args meth c) (ho : ab_ok y pc (.dup, v, w, nx, a, b, t, is) = true) (hd : ab_st1 (.dup, v, w, nx, a, b, t, is) L st h = some (.inl (pc', L', st', h'))) (kk : ab_W q n0 y p l e R s m args below meth c Q pc' L' st' h') : ab_W q n0 y p l e R s m args below meth c Q pc L st h := by
  intro H locs ls hl hC hS
  obtain ⟨hx, hb, hml, hown, hts, hnm, hfr, hlo, hlv, hK, hO, hBs, hg⟩ := F
  obtain ⟨hdc, hnx, h1⟩ := ab_ok_inv ho rfl
  dsimp only [ab_len] at hdc hnx
  simp only [ab_nx] at hnx
  subst hnx
  simp only [ab_st1, ab_stp] at hd
  split at hd
  · cases hd
    exact lv_dup hx hb hdc rfl (kk H locs ls hl hC hS)
  · cases hd
    exact lv_dup hx hb hdc (hg _) (kk H locs ls hl hC hS)
  · cases hd

theorem sx_dup2 (F : ab_Fr q n0 y p R s m args meth c) (ho : ab_ok y pc (.dup2, v, w, nx, a, b, t, is) = true) (hd : ab_st1 (.dup2, v, w, nx, a, b, t, is) L st h = some (.inl (pc', L', st', h'))) (kk : ab_W q n0 y p l e R s m args below meth c Q pc' L' st' h') : ab_W q n0 y p l e R s m args below meth c Q pc L st h := by
  intro H locs ls hl hC hS
  obtain ⟨hx, hb, hml, hown, hts, hnm, hfr, hlo, hlv, hK, hO, hBs, hg⟩ := F
  obtain ⟨hdc, hnx, h1⟩ := ab_ok_inv ho rfl
  dsimp only [ab_len] at hdc hnx
  simp only [ab_nx] at hnx
  subst hnx
  obtain ⟨x1, r1, rfl, hd⟩ := ab_pi_inv hd
  obtain ⟨a1, r2, rfl, hd⟩ := ab_pr_inv hd
  cases hd
  exact lv_dup2_11 hx hb hdc rfl (hg _) (kk H locs ls hl hC hS)

end
