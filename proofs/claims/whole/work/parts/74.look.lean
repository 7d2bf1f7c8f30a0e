/-! Text, the reference: the token at a place; words and numbers -/
theorem so_int (c : Int32) : (c < 97 ↔ c.toInt < 97) ∧ (122 < c ↔ 122 < c.toInt) ∧ (c < 48 ↔ c.toInt < 48) ∧ (57 < c ↔ 57 < c.toInt) ∧ (c = 59 ↔ c.toInt = 59) := by
  refine ⟨Int32.lt_iff_toInt_lt, Int32.lt_iff_toInt_lt, Int32.lt_iff_toInt_lt, Int32.lt_iff_toInt_lt, ?_⟩
  rw [← Int32.toInt_inj]
  rfl
theorem sm_so (c : Int32) : inV c (nI 97) (nI 122) = if soV c = 0 then 1 else 0 := by
  show (if c < 97 then (0 : Int32) else if 122 < c then 0 else 1) = _
  unfold soV
  by_cases h1 : c < 97 <;> by_cases h2 : 122 < c <;> by_cases h3 : c < 48 <;> by_cases h4 : 57 < c <;> by_cases h5 : c = 59 <;> simp only [h1, h2, h3, h4, h5, if_true, if_false, or_true, true_or, or_self, or_false, false_or] <;> rfl
theorem fg_so (c : Int32) : inV c (nI 48) (nI 57) = if soV c = 1 then 1 else 0 := by
  show (if c < 48 then (0 : Int32) else if 57 < c then 0 else 1) = _
  obtain ⟨i1, i2, i3, i4, i5⟩ := so_int c
  have no : ∀ P : Prop, ∀ [Decidable P], ¬ ((if P then (2 : Int32) else 3) = 1) := fun P _ => by
    split <;> decide
  by_cases h1 : c < 97
  · by_cases h3 : c < 48
    · have e : soV c = if c = 59 then 2 else 3 := by
        unfold soV
        rw [if_pos (Or.inl h1), if_pos (Or.inl h3)]
      rw [if_pos h3, e, if_neg (no _)]
    · by_cases h4 : 57 < c
      · have e : soV c = if c = 59 then 2 else 3 := by
          unfold soV
          rw [if_pos (Or.inl h1), if_pos (Or.inr h4)]
        rw [if_neg h3, if_pos h4, e, if_neg (no _)]
      · have e : soV c = 1 := by
          unfold soV
          rw [if_pos (Or.inl h1), if_neg (show ¬ (c < 48 ∨ 57 < c) from fun z => z.elim h3 h4)]
        rw [if_neg h3, if_neg h4, e, if_pos rfl]
  · have h3 : ¬ c < 48 := fun z => h1 (i1.mpr (by have := i3.mp z; omega))
    have h4 : 57 < c := i4.mpr (by
      have : ¬ c.toInt < 97 := fun z => h1 (i1.mpr z)
      omega)
    rw [if_neg h3, if_pos h4]
    by_cases h2 : 122 < c
    · have e : soV c = if c = 59 then 2 else 3 := by
        unfold soV
        rw [if_pos (Or.inr h2), if_pos (Or.inr h4)]
      rw [e, if_neg (no _)]
    · have e : soV c = 0 := by
        unfold soV
        rw [if_neg (show ¬ (c < 97 ∨ 122 < c) from fun z => z.elim h1 h2)]
      rw [e, if_neg (by decide)]
theorem m_isSmall (c : Int32) (h : ab_H) : fn_M_isSmall c h = some (some (.int (if soV c = 0 then 1 else 0)), h) := by
  rw [q_M_isSmall, m_wn c 97 122 (by decide) (by decide), cI_some, chk_in, sm_so]
theorem m_isFigure (c : Int32) (h : ab_H) : fn_M_isFigure c h = some (some (.int (if soV c = 1 then 1 else 0)), h) := by
  rw [q_M_isFigure, m_wn c 48 57 (by decide) (by decide), cI_some, chk_in, fg_so]
theorem so_cases (c : Int32) : soV c = 0 ∨ soV c = 1 ∨ (soV c = 2 ∧ c = 59) ∨ (soV c = 3 ∧ ¬ c = 59) := by
  unfold soV
  split
  · split
    · split
      · rename_i e; exact Or.inr (Or.inr (Or.inl ⟨rfl, e⟩))
      · rename_i e; exact Or.inr (Or.inr (Or.inr ⟨rfl, e⟩))
    · exact Or.inr (Or.inl rfl)
  · exact Or.inl rfl
/-- the reference's sort of the token -/
def mtV (b : Nat → Int32) (L q : Nat) : Int32 := if tT b L q = 0 then 1 else if tT b L q = 1 then (if tE b L q - tS b L q ≤ 2 then 2 else 4) else if tT b L q = 2 then 3 else if tT b L q = 3 then 4 else 0
def MTk (I b : Nat → Int32) (L q : Nat) : Prop := I 17 = nI (tS b L q) ∧ I 18 = nI (tE b L q - tS b L q) ∧ I 19 = mtV b L q ∧ (mtV b L q = 2 → I 20 = nvV b L q) ∧ I 16 = nI L
section
variable {h : ab_H} {m : Nat} {A : Nat → Nat → Int32} {u v : Int64} {b : Nat → Int32} {L : Nat}
theorem m_sp_loop (hb : A 10 = b) (hL : L ≤ 150) (x1 : Int32) (x2 x3 x4 : Option Value) : ∀ (k i : Nat) (I : Nat → Int32), i + k = L → I 16 = nI L → I 17 = nI i → ∃ I', pt_M_lookAt_5 m x1 x2 x3 x4 (mH h m A I u v) = pt_M_lookAt_43 m x1 x2 x3 x4 (mH h m A I' u v) ∧ I' 17 = nI (spL b L k i) ∧ I' 16 = nI L := by
  intro k
  induction k with
  | zero =>
    intro i I hi e16 e17
    rw [q_M_lookAt_5, mi_17, mi_16, e16, e17, if_pos (nI_le (by omega) (by omega))]
    exact ⟨I, rfl, e17, e16⟩
  | succ k ih =>
    intro i I hi e16 e17
    rw [q_M_lookAt_5, mi_17, mi_16, e16, e17, if_neg (nI_ge (by omega) (by omega)), mr_15, mi_17, e17, ml_10 (by omega), hb, spL, if_neg (show ¬ L ≤ i by omega)]
    by_cases h2 : b i = 32
    · rw [if_pos h2, if_pos h2, mi_17, e17, nI_1, mp_17]
      exact ih (i + 1) _ (by omega) ((up_ne _ _ (by decide)).trans e16) (up_at _ _ _)
    · rw [if_neg h2, if_neg h2]
      exact ⟨I, rfl, e17, e16⟩
theorem m_ex_loop (hb : A 10 = b) (hL : L ≤ 150) (x1 x2 : Int32) {s : Nat} {t tk : Int32} (ht : (t = 1 ∧ tk = 0) ∨ (t = 2 ∧ tk = 1)) : ∀ (k e : Nat) (I : Nat → Int32) (x4 : Option Value), e + k = L → s < e → I 16 = nI L → I 17 = nI s → I 18 = nI (e - s) → I 19 = t → ∃ I' x3, pt_M_lookAt_136 m x1 x2 1 x4 (mH h m A I u v) = pt_M_lookAt_218 m x1 x2 x3 0 (mH h m A I' u v) ∧ I' 18 = nI (exL b L tk k e - s) ∧ (∀ j, j ≠ 18 → I' j = I j) := by
  have htk : ¬ 1 < tk := by
    rcases ht with ⟨-, e⟩ | ⟨-, e⟩
    · subst e; decide
    · subst e; decide
  intro k
  induction k with
  | zero =>
    intro e I x4 he hs e16 e17 e18 e19
    rw [q_M_lookAt_136, if_neg z10, mi_17, mi_18, mi_16, e16, e17, e18, nI_add, if_pos (nI_le (by omega) (by omega))]
    exact ⟨I, 1, rfl, e18, fun _ _ => rfl⟩
  | succ k ih =>
    intro e I x4 he hs e16 e17 e18 e19
    have ee : s + (e - s) = e := by omega
    have step : pt_M_lookAt_193 m x1 x2 1 (b e) (if soV (b e) = tk then 1 else 0) (mH h m A I u v) = if soV (b e) = tk then pt_M_lookAt_136 m x1 x2 1 (some (.int (b e))) (mH h m A (upd I 18 (nI (e + 1 - s))) u v) else pt_M_lookAt_218 m x1 x2 0 0 (mH h m A (upd I 18 (nI (e - s))) u v) := by
      rw [q_M_lookAt_193, mi_18, e18]
      by_cases h2 : soV (b e) = tk
      · rw [if_pos h2, if_neg z10, if_pos h2, nI_1, mp_18, show e - s + 1 = e + 1 - s by omega]
      · rw [if_neg h2, if_pos rfl, if_neg h2, add_0, mp_18, q_M_lookAt_136, if_pos rfl]
    have red : pt_M_lookAt_136 m x1 x2 1 x4 (mH h m A I u v) = pt_M_lookAt_193 m x1 x2 1 (b e) (if soV (b e) = tk then 1 else 0) (mH h m A I u v) := by
      rw [q_M_lookAt_136, if_neg z10, mi_17, mi_18, mi_16, e16, e17, e18, nI_add, ee, if_neg (nI_ge (by omega) (by omega)), mr_15, mi_17, mi_18, e17, e18, nI_add, ee, ml_10 (by omega), hb, mi_19, e19]
      rcases ht with ⟨e1, e2⟩ | ⟨e1, e2⟩
      · subst e1
        subst e2
        rw [if_pos rfl, m_isSmall, cI_some]
      · subst e1
        subst e2
        rw [if_neg (by decide), m_isFigure, cI_some]
    rw [red, step, exL, if_neg htk, if_neg (show ¬ L ≤ e by omega)]
    by_cases h2 : soV (b e) = tk
    · rw [if_pos h2, if_pos h2]
      obtain ⟨I', x3, e3, r1, r2⟩ := ih (e + 1) (upd I 18 (nI (e + 1 - s))) (some (.int (b e))) (by omega) (by omega) ((up_ne _ _ (by decide)).trans e16) ((up_ne _ _ (by decide)).trans e17) (up_at _ _ _) ((up_ne _ _ (by decide)).trans e19)
      exact ⟨I', x3, e3, r1, fun j hj => (r2 j hj).trans (up_ne _ _ hj)⟩
    · rw [if_neg h2, if_neg h2]
      exact ⟨_, 0, rfl, up_at _ _ _, fun j hj => up_ne _ _ hj⟩
theorem m_look_end {I : Nat → Int32} (x1 x2 x3 x4 : Int32) {l : Nat} (hl : l < 2 ^ 31) (e18 : I 18 = nI l) : pt_M_lookAt_274 m x1 x2 x3 x4 (mH h m A I u v) = some (none, mH h m A (upd I 19 (if I 19 = 2 then (if l ≤ 2 then 2 else 4) else I 19)) u v) := by
  rw [q_M_lookAt_274, mi_19]
  by_cases h2 : I 19 = 2
  · rw [if_pos h2, if_pos h2, mi_18, e18]
    by_cases h3 : l ≤ 2
    · rw [if_pos (show nI l ≤ (2 : Int32) from nI_le (b := 2) h3 (by decide)), if_pos h3, mi_19, mp_19, h2]
    · rw [if_neg (show ¬ nI l ≤ (2 : Int32) from nI_ge (a := 2) (by omega) hl), if_neg h3, mp_19]
  · rw [if_neg h2, if_neg h2, mi_19, mp_19]
theorem m_val {I : Nat → Int32} (hb : A 10 = b) (x1 x2 x3 : Int32) {s l : Nat} (hl : 0 < l) (hsl : s + l ≤ 150) (e17 : I 17 = nI s) (e18 : I 18 = nI l) (e20 : I 20 = 0) : ∃ I', pt_M_lookAt_218 m x1 x2 x3 0 (mH h m A I u v) = some (none, mH h m A I' u v) ∧ (∀ j, j ≠ 19 → j ≠ 20 → I' j = I j) ∧ I' 19 = (if I 19 = 2 then (if l ≤ 2 then 2 else 4) else I 19) ∧ (I 19 = 2 → l ≤ 2 → I' 20 = nvL b l s 0) := by
  have n0 : ¬ nI l ≤ (0 : Int32) := nI_nle hl (by omega)
  by_cases h2 : I 19 = 2
  · have st0 : pt_M_lookAt_218 m x1 x2 x3 0 (mH h m A I u v) = pt_M_lookAt_218 m x1 x2 x3 1 (mH h m A (upd I 20 (0 * 10 + b s - 48)) u v) := by
      rw [q_M_lookAt_218, mi_18, e18, if_neg n0, if_neg (by decide), mi_19, if_pos h2, mi_20, e20, mr_15, mi_17, e17, nI_a0, ml_10 (by omega), hb, mp_20, Int32.mul_comm]
      rfl
    by_cases h1 : l = 1
    · subst h1
      have e18' : (upd I 20 (0 * 10 + b s - 48)) 18 = nI 1 := (up_ne _ _ (by decide)).trans e18
      have ee := m_look_end (h := h) (m := m) (A := A) (u := u) (v := v) x1 x2 x3 1 (by decide) e18'
      refine ⟨upd (upd I 20 (0 * 10 + b s - 48)) 19 (if upd I 20 (0 * 10 + b s - 48) 19 = 2 then (if 1 ≤ 2 then 2 else 4) else upd I 20 (0 * 10 + b s - 48) 19), ?_, fun j h1 h2 => ?_, ?_, fun _ _ => ?_⟩
      · rw [st0, q_M_lookAt_218, mi_18, e18', if_pos (by decide), ee]
      · rw [up_ne _ _ h1, up_ne _ _ h2]
      · rw [up_at, up_ne _ _ (by decide)]
      · rw [up_ne _ _ (by decide), up_at]
        rfl
    · have e18' : (upd I 20 (0 * 10 + b s - 48)) 18 = nI l := (up_ne _ _ (by decide)).trans e18
      have e17' : (upd I 20 (0 * 10 + b s - 48)) 17 = nI s := (up_ne _ _ (by decide)).trans e17
      have e19' : (upd I 20 (0 * 10 + b s - 48)) 19 = 2 := (up_ne _ _ (by decide)).trans h2
      have st1 : pt_M_lookAt_218 m x1 x2 x3 1 (mH h m A (upd I 20 (0 * 10 + b s - 48)) u v) = pt_M_lookAt_218 m x1 x2 x3 2 (mH h m A (upd I 20 ((0 * 10 + b s - 48) * 10 + b (s + 1) - 48)) u v) := by
        rw [q_M_lookAt_218, mi_18, e18', if_neg (show ¬ nI l ≤ (1 : Int32) from nI_ge (a := 1) (by omega) (by omega)), if_neg (by decide), mi_19, if_pos e19', mi_20, up_at, mr_15, mi_17, e17', nI_1, ml_10 (by omega), hb, mp_20, Int32.mul_comm 10 (0 * 10 + b s - 48), upd_upd]
        rfl
      have e18'' : (upd I 20 ((0 * 10 + b s - 48) * 10 + b (s + 1) - 48)) 18 = nI l := (up_ne _ _ (by decide)).trans e18
      have ee := m_look_end (h := h) (m := m) (A := A) (u := u) (v := v) x1 x2 x3 2 (show l < 2 ^ 31 by omega) e18''
      refine ⟨upd (upd I 20 ((0 * 10 + b s - 48) * 10 + b (s + 1) - 48)) 19 (if upd I 20 ((0 * 10 + b s - 48) * 10 + b (s + 1) - 48) 19 = 2 then (if l ≤ 2 then 2 else 4) else upd I 20 ((0 * 10 + b s - 48) * 10 + b (s + 1) - 48) 19), ?_, fun j h1 h2 => ?_, ?_, fun _ hl2 => ?_⟩
      · rw [st0, st1, q_M_lookAt_218, mi_18, e18'', if_pos (show (2 : Int32) ≤ 2 by decide), ee, ite_self]
      · rw [up_ne _ _ h1, up_ne _ _ h2]
      · rw [up_at, up_ne _ _ (by decide)]
      · have l2 : l = 2 := by omega
        subst l2
        rw [up_ne _ _ (by decide), up_at]
        rfl
  · have ee := m_look_end (h := h) (m := m) (A := A) (u := u) (v := v) x1 x2 x3 0 (show l < 2 ^ 31 by omega) e18
    refine ⟨upd I 19 (if I 19 = 2 then (if l ≤ 2 then 2 else 4) else I 19), ?_, fun j h1 h2 => up_ne _ _ h1, up_at _ _ _, fun z => absurd z h2⟩
    rw [q_M_lookAt_218, mi_18, e18, if_neg n0, if_neg (by decide), mi_19, if_neg h2, ee]
theorem m_lookAt {I : Nat → Int32} {q : Nat} (hb : A 10 = b) (e16 : I 16 = nI L) (hL : L ≤ 150) (hq : q ≤ L) : ∃ I', fn_M_lookAt m (nI q) (mH h m A I u v) = some (none, mH h m A I' u v) ∧ MTk I' b L q := by
  have hle := tk_le b hq
  obtain ⟨I1, e1, r1, r2⟩ := m_sp_loop (h := h) (m := m) (u := u) (v := v) hb hL (nI q) none none none (L - q) q (upd I 17 (nI q)) (by omega) ((up_ne _ _ (by decide)).trans e16) (up_at _ _ _)
  have r1 : I1 17 = nI (tS b L q) := r1
  have p17 : (upd (upd (upd I1 18 0) 19 0) 20 0) 17 = nI (tS b L q) := r1
  have p16 : (upd (upd (upd I1 18 0) 19 0) 20 0) 16 = nI L := r2
  rw [q_M_lookAt, mp_17, e1, q_M_lookAt_43, mp_18, mp_19, mp_20, mi_17, mi_16, p17, p16]
  by_cases hl : L ≤ tS b L q
  · have hS : tS b L q = L := by omega
    have hE : tE b L q = tS b L q := if_pos hl
    have hT : tT b L q = 4 := if_pos hl
    have hm : mtV b L q = 0 := by
      unfold mtV
      rw [hT]
      rfl
    rw [if_pos (show nI (tS b L q) = nI L by rw [hS])]
    refine ⟨_, rfl, p17, ?_, ?_, ?_, p16⟩
    · rw [hE, Nat.sub_self]
      rfl
    · rw [hm]
      rfl
    · rw [hm]
      intro z
      exact absurd z (by decide)
  · have hT : tT b L q = soV (b (tS b L q)) := if_neg hl
    have hE : tE b L q = exL b L (soV (b (tS b L q))) (L - (tS b L q + 1)) (tS b L q + 1) := if_neg hl
    rw [if_neg (fun z => by have := (nI_eq (by omega) (by omega)).mp z; omega), mr_15, mi_17, p17, ml_10 (by omega), hb, m_isSmall, cI_some, m_isFigure, cI_some]
    -- from the sort on
    have go : ∀ (t : Int32), (t = 1 ∧ soV (b (tS b L q)) = 0) ∨ (t = 2 ∧ soV (b (tS b L q)) = 1) ∨ (t = 3 ∧ soV (b (tS b L q)) = 2) ∨ (t = 4 ∧ soV (b (tS b L q)) = 3) → ∃ I', pt_M_lookAt_114 m (nI q) (b (tS b L q)) none none m t (mH h m A (upd (upd (upd I1 18 0) 19 0) 20 0) u v) = some (none, mH h m A I' u v) ∧ MTk I' b L q := fun t ht => by
      rw [q_M_lookAt_114, mp_19, mp_18, mi_19]
      have q19 : (upd (upd (upd (upd (upd I1 18 0) 19 0) 20 0) 19 t) 18 1) 19 = t := rfl
      have q18 : (upd (upd (upd (upd (upd I1 18 0) 19 0) 20 0) 19 t) 18 1) 18 = nI 1 := rfl
      have q20 : (upd (upd (upd (upd (upd I1 18 0) 19 0) 20 0) 19 t) 18 1) 20 = 0 := rfl
      have q17 : (upd (upd (upd (upd (upd I1 18 0) 19 0) 20 0) 19 t) 18 1) 17 = nI (tS b L q) := r1
      have q16 : (upd (upd (upd (upd (upd I1 18 0) 19 0) 20 0) 19 t) 18 1) 16 = nI L := r2
      rw [q19]
      generalize (upd (upd (upd (upd (upd I1 18 0) 19 0) 20 0) 19 t) 18 1) = I2 at q19 q18 q20 q17 q16
      by_cases ht3 : (t = 1 ∧ soV (b (tS b L q)) = 0) ∨ (t = 2 ∧ soV (b (tS b L q)) = 1)
      · have hlt : ¬ (3 : Int32) ≤ t := by
          rcases ht3 with ⟨e, -⟩ | ⟨e, -⟩
          · subst e; decide
          · subst e; decide
        rw [if_neg hlt]
        obtain ⟨I3, x3, e3, s1, s2⟩ := m_ex_loop (h := h) (m := m) (u := u) (v := v) hb hL (nI q) (b (tS b L q)) (s := tS b L q) (t := t) (tk := soV (b (tS b L q))) ht3 (L - (tS b L q + 1)) (tS b L q + 1) I2 none (by omega) (by omega) q16 q17 (by rw [q18]; exact congrArg nI (by omega)) q19
        rw [← hE] at s1
        have hlt2 := tk_lt b hq (by
          rw [hT]
          rcases ht3 with ⟨-, e⟩ | ⟨-, e⟩
          · rw [e]; decide
          · rw [e]; decide)
        obtain ⟨I4, e4, t1, t2, t3⟩ := m_val (h := h) (m := m) (A := A) (u := u) (v := v) hb (nI q) (b (tS b L q)) x3 (s := tS b L q) (l := tE b L q - tS b L q) (by omega) (by omega) ((s2 17 (by decide)).trans q17) s1 ((s2 20 (by decide)).trans q20)
        rw [e3, e4]
        have e19 : I3 19 = t := (s2 19 (by decide)).trans q19
        refine ⟨I4, rfl, (t1 17 (by decide) (by decide)).trans ((s2 17 (by decide)).trans q17), (t1 18 (by decide) (by decide)).trans s1, ?_, ?_, (t1 16 (by decide) (by decide)).trans ((s2 16 (by decide)).trans q16)⟩
        · rw [t2, e19]
          unfold mtV
          rw [hT]
          rcases ht3 with ⟨ea, eb⟩ | ⟨ea, eb⟩
          · rw [ea, eb]
            rfl
          · rw [ea, eb]
            rfl
        · intro hm
          have hT1 : t = 2 ∧ tE b L q - tS b L q ≤ 2 := by
            unfold mtV at hm
            rw [hT] at hm
            rcases ht3 with ⟨ea, eb⟩ | ⟨ea, eb⟩
            · rw [eb, if_pos rfl] at hm
              exact absurd hm (by decide)
            · rw [eb, if_neg (by decide), if_pos rfl] at hm
              refine ⟨ea, ?_⟩
              by_cases hl2 : tE b L q - tS b L q ≤ 2
              · exact hl2
              · rw [if_neg hl2] at hm
                exact absurd hm (by decide)
          exact t3 (e19.trans hT1.1) hT1.2
      · have ht4 : (t = 3 ∧ soV (b (tS b L q)) = 2) ∨ (t = 4 ∧ soV (b (tS b L q)) = 3) := by
          rcases ht with z | z | z | z
          · exact absurd (Or.inl z) ht3
          · exact absurd (Or.inr z) ht3
          · exact Or.inl z
          · exact Or.inr z
        have hge : (3 : Int32) ≤ t := by
          rcases ht4 with ⟨e, -⟩ | ⟨e, -⟩
          · subst e; decide
          · subst e; decide
        have hl1 : tE b L q = tS b L q + 1 := by
          rw [hE]
          cases hk : L - (tS b L q + 1) with
          | zero => rfl
          | succ k =>
            rw [exL, if_pos]
            rcases ht4 with ⟨-, e⟩ | ⟨-, e⟩
            · rw [e]; decide
            · rw [e]; decide
        rw [if_pos hge, q_M_lookAt_136, if_pos rfl]
        obtain ⟨I4, e4, t1, t2, t3⟩ := m_val (h := h) (m := m) (A := A) (u := u) (v := v) hb (nI q) (b (tS b L q)) 0 (s := tS b L q) (l := 1) (by omega) (by omega) q17 q18 q20
        rw [e4]
        refine ⟨I4, rfl, (t1 17 (by decide) (by decide)).trans q17, (t1 18 (by decide) (by decide)).trans (q18.trans (congrArg nI (by omega))), ?_, ?_, (t1 16 (by decide) (by decide)).trans q16⟩
        · rw [t2, q19]
          unfold mtV
          rw [hT]
          rcases ht4 with ⟨ea, eb⟩ | ⟨ea, eb⟩
          · rw [ea, eb]
            rfl
          · rw [ea, eb]
            rfl
        · intro hm
          unfold mtV at hm
          rw [hT] at hm
          rcases ht4 with ⟨ea, eb⟩ | ⟨ea, eb⟩
          · rw [eb, if_neg (by decide), if_neg (by decide), if_pos rfl] at hm
            exact absurd hm (by decide)
          · rw [eb, if_neg (by decide), if_neg (by decide), if_neg (by decide), if_pos rfl] at hm
            exact absurd hm (by decide)
    rcases so_cases (b (tS b L q)) with z | z | ⟨z, y⟩ | ⟨z, y⟩
    · rw [if_pos z, if_neg z10]
      exact go 1 (Or.inl ⟨rfl, z⟩)
    · have z0 : ¬ soV (b (tS b L q)) = 0 := by rw [z]; decide
      rw [if_neg z0, if_pos rfl, if_pos z, if_neg z10]
      exact go 2 (Or.inr (Or.inl ⟨rfl, z⟩))
    · have z0 : ¬ soV (b (tS b L q)) = 0 := by rw [z]; decide
      have z1 : ¬ soV (b (tS b L q)) = 1 := by rw [z]; decide
      rw [if_neg z0, if_pos rfl, if_neg z1, if_pos rfl, if_pos y]
      exact go 3 (Or.inr (Or.inr (Or.inl ⟨rfl, z⟩)))
    · have z0 : ¬ soV (b (tS b L q)) = 0 := by rw [z]; decide
      have z1 : ¬ soV (b (tS b L q)) = 1 := by rw [z]; decide
      rw [if_neg z0, if_pos rfl, if_neg z1, if_pos rfl, if_neg y]
      exact go 4 (Or.inr (Or.inr (Or.inr ⟨rfl, z⟩)))
theorem m_behind {I : Nat → Int32} {q : Nat} (hb : A 10 = b) (hM : MTk I b L q) (hL : L ≤ 150) (hq : q ≤ L) : ∃ I', fn_M_goBehind m (mH h m A I u v) = some (none, mH h m A I' u v) ∧ MTk I' b L (tE b L q) := by
  have hle := tk_le b hq
  obtain ⟨I1, e1, t1⟩ := m_lookAt (h := h) (m := m) (u := u) (v := v) (q := tE b L q) hb hM.2.2.2.2 hL hle.2.2
  refine ⟨I1, ?_, t1⟩
  rw [q_M_goBehind, mi_17, mi_18, hM.1, hM.2.1, nI_add, show tS b L q + (tE b L q - tS b L q) = tE b L q by omega, mc, e1, cV_some]
end
