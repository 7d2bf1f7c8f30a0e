/-! how the pure machine's values, locals and cells stand for the real ones -/
/-- the constants of one launch: classes and slots, array classes, the heap's size at the start, the script's cell, the String constants' cells, their bytes' cells, a static nobody asks for, the script's length and contents -/
abbrev ab_Q : Type := va_G × (Nat → ClassId) × Nat × Nat × (Nat → Nat) × (Nat → Nat) × Value × Nat × (Nat → Int32)
abbrev qD (q : ab_Q) : va_G := q.1
abbrev qA (q : ab_Q) : Nat → ClassId := q.2.1
abbrev qB (q : ab_Q) : Nat := q.2.2.1
abbrev qb (q : ab_Q) : Nat := q.2.2.2.1
abbrev qK (q : ab_Q) : Nat → Nat := q.2.2.2.2.1
abbrev qV (q : ab_Q) : Nat → Nat := q.2.2.2.2.2.1
abbrev qv9 (q : ab_Q) : Value := q.2.2.2.2.2.2.1
abbrev qL (q : ab_Q) : Nat := q.2.2.2.2.2.2.2.1
abbrev qx (q : ab_Q) : Nat → Int32 := q.2.2.2.2.2.2.2.2
def st_len : List Nat := [4, 5, 3, 7]
def st_byt : List (List Int32) := [[119, 97, 108, 108], [112, 105, 116, 99, 104], [105, 99, 101], [99, 108, 105, 109, 98, 101, 114]]
def st_ix : List Nat := [44, 53, 62, 67]
def st_tx : List String := ["wall", "pitch", "ice", "climber"]
def ab_g (q : ab_Q) (k : Nat) : Value := if 16 ≤ k then .ref (qB q + (k - 16)) else if k = 0 then .ref (qb q) else if k ≤ 4 then .ref (qK q (k - 1)) else if k ≤ 8 then .ref (qV q (k - 5)) else qv9 q
def ab_cv (q : ab_Q) : Value → Value
  | .ref k => ab_g q k
  | v => v
def ab_rfo (q : ab_Q) (v : Value) : Option Nat := match ab_cv q v with
  | .ref a => some a
  | _ => none
def ab_ce (q : ab_Q) : Option ab_Ce → va_E
  | some (.inl u) => .inl (qA q u.1, u.2.1, .inl u.2.2)
  | some (.inr u) => if u.1 = 30 then .inl (qA q 3, u.2.length, .inr (.inr (.inr (.inr (fun j => ab_rfo q (u.2.getD j .null)))))) else .inr (u.1, u.2.map (ab_cv q))
  | none => .inr (0, [])
def ab_w (q : ab_Q) (h : ab_H) : va_W := (List.range (h.1 - 16)).map fun j => (qB q + j, ab_ce q (h.2 (j + 16)))
def ab_ro (n : Nat) (xs : Nat → Int32) (k : Nat) : Option ab_Ce := if k = 0 then some (.inl (3, n, xs)) else if k ≤ 4 then some (.inr (20, [.ref (k + 4), .int 0])) else if k ≤ 8 then some (.inl (4, st_len.getD (k - 5) 0, fun j => (st_byt.getD (k - 5) []).getD j 0)) else none
/-- a cell that is made: its sort -/
def ab_okc (c : ab_Ce) : Prop := match c with
  | .inl u => u.1 < 3
  | .inr u => u.1 = 30 ∨ u.1 < 12
def ab_wf (q : ab_Q) (h : ab_H) : Prop := 16 ≤ h.1 ∧ (∀ k, h.1 ≤ k → h.2 k = none) ∧ (∀ k, k < 16 → h.2 k = ab_ro (qL q) (qx q) k) ∧ ∀ k, 16 ≤ k → k < h.1 → ∃ c, h.2 k = some c ∧ ab_okc c
abbrev ab_ty (q : ab_Q) : List (ClassId × FieldType) := [(qA q 0, .int), (qA q 1, .byte), (qA q 2, .boolean), (qA q 3, .object "RopeLaw$Scene")]
/-- what is known of the tables at a state -/
def ab_K (q : ab_Q) (U : State) : Prop := va_K (qD q) vwCl (ab_ty q) U ∧ (∀ i, i < 4 → vk_R "RopeLaw$Text" (st_ix.getD i 0) (st_tx.getD i "") (qK q i) U) ∧ va_AO "RopeLaw$Scene" U ∧ ∀ a i x h, Cond.methodLinkNest a i x h ∈ lw_tbl → va_Nw (.methodLinkNest a i x h) U
abbrev ab_A (q : ab_Q) : Nat → Prop := fun a => qB q ≤ a
/-- the cells that were there before the law began, and that nobody writes -/
def ab_O (q : ab_Q) (U : State) (H : Heap) : Prop := va_X (qb q) (qL q) (qx q) U H ∧ qb q < qB q ∧ vk_S 4 st_len st_byt (qK q) (qV q) (ab_A q) U H ∧ va_Z "java/lang/String" "COMPACT_STRINGS" "Z" (.int 1) (ab_A q) U H ∧ va_Z "jdk/internal/util/Preconditions" "SIOOBE_FORMATTER" "Ljava/util/function/BiFunction;" (qv9 q) (ab_A q) U H
/-- a real heap stands for the pure one -/
def ab_C (q : ab_Q) (h : ab_H) (H : Heap) : Prop := ab_wf q h ∧ va_P (qD q) vwCl (ab_w q h) H
theorem ab_K.warm {q : ab_Q} {s U : State} (hW : s.WarmedH U.vm) (h : ab_K q s) : ab_K q U :=
  ⟨va_K.moved hW.alike h.1, fun i hi => (h.2.1 i hi).warm hW, va_AO.moved hW.alike h.2.2.1, fun a i x k hm => va_Nw.warmM hW (h.2.2.2 a i x k hm)⟩
theorem ab_K.same {q : ab_Q} {u U : State} (hv : U.vm = u.vm) (h : ab_K q u) : ab_K q U :=
  ⟨va_K.moved (by rw [hv]; exact Vm.Alike.refl _) h.1, fun i hi => (h.2.1 i hi).same hv, va_AO.moved (by rw [hv]; exact Vm.Alike.refl _) h.2.2.1, fun a i x k hm => va_Nw.same rfl hv.symm (h.2.2.2 a i x k hm)⟩
theorem ab_O.moved {q : ab_Q} {u U : State} {H : Heap} (hv : u.vm.Alike U.vm) (h : ab_O q u H) : ab_O q U H := by
  obtain ⟨h1, h2, h3, h4, h5⟩ := h
  exact ⟨h1.moved hv, h2, h3.moved hv, h4.moved hv, h5.moved hv⟩
theorem ab_O.kept {q : ab_Q} {U : State} {H H1 : Heap} (h : ab_O q U H) (hq : ∀ a : Nat, a < H.size → ¬ ab_A q a → H1[a]? = H[a]?) : ab_O q U H1 := by
  obtain ⟨h1, h2, h3, h4, h5⟩ := h
  have hb : qb q < H.size := by
    obtain ⟨scr, hs, -⟩ := h1
    exact (Array.getElem?_eq_some_iff.mp hs).1
  exact ⟨h1.kept (hq _ hb (Nat.not_le.mpr h2)), h2, h3.kept hq, h4.kept hq, h5.kept hq⟩
theorem ab_w_at (q : ab_Q) (h : ab_H) {k : Nat} (h1 : 16 ≤ k) (h2 : k < h.1) : (ab_w q h)[k - 16]? = some (qB q + (k - 16), ab_ce q (h.2 k)) := by
  unfold ab_w
  rw [List.getElem?_map, List.getElem?_range (by omega)]
  simp only [Option.map_some]
  rw [show k - 16 + 16 = k by omega]
theorem ab_w_D (q : ab_Q) (h : ab_H) : va_D (ab_A q) (ab_w q h) := by
  have key : ∀ (k : Nat) (p : Nat × va_E), (ab_w q h)[k]? = some p → p.1 = qB q + k := by
    intro k p hp
    unfold ab_w at hp
    rw [List.getElem?_map] at hp
    cases hr : (List.range (h.1 - 16))[k]? with
    | none => rw [hr] at hp; cases hp
    | some j =>
      rw [hr] at hp
      have hj : j = k := by
        have := List.getElem?_eq_some_iff.mp hr
        obtain ⟨_, e⟩ := this
        simpa using e.symm
      cases hp
      rw [hj]
  refine ⟨fun i j p r hi hj e => ?_, fun k p hp => ?_⟩
  · rw [key i p hi, key j r hj] at e
    omega
  · show qB q ≤ p.1
    rw [key k p hp]
    omega
theorem ab_w_set (q : ab_Q) (h : ab_H) {k : Nat} (h1 : 16 ≤ k) (h2 : k < h.1) (c : ab_Ce) : ab_w q (ab_set h k c) = (ab_w q h).set (k - 16) (qB q + (k - 16), ab_ce q (some c)) := by
  apply List.ext_getElem?
  intro j
  by_cases hj : j < h.1 - 16
  · have e1 := ab_w_at q (ab_set h k c) (k := j + 16) (by omega) (show j + 16 < h.1 by omega)
    have e2 := ab_w_at q h (k := j + 16) (by omega) (show j + 16 < h.1 by omega)
    rw [show j + 16 - 16 = j by omega] at e1 e2
    rw [e1]
    by_cases hk : j = k - 16
    · subst hk
      have hl : k - 16 < (ab_w q h).length := by simp only [ab_w, List.length_map, List.length_range]; omega
      rw [List.getElem?_set_self hl]
      simp [ab_set, show k - 16 + 16 = k by omega]
    · rw [List.getElem?_set_ne (Ne.symm hk), e2]
      simp [ab_set, show ¬ j + 16 = k by omega]
  · have l1 : (ab_w q (ab_set h k c)).length = h.1 - 16 := by simp [ab_w, ab_set]
    have l2 : (ab_w q h).length = h.1 - 16 := by simp [ab_w]
    rw [List.getElem?_eq_none (by omega), List.getElem?_eq_none (by rw [List.length_set]; omega)]
theorem ab_w_new (q : ab_Q) (h : ab_H) (h1 : 16 ≤ h.1) (c : ab_Ce) : ab_w q (ab_new h c) = ab_w q h ++ [(qB q + (h.1 - 16), ab_ce q (some c))] := by
  unfold ab_w ab_new
  rw [show h.1 + 1 - 16 = (h.1 - 16) + 1 by omega, List.range_succ, List.map_append]
  congr 1
  · apply List.map_congr_left
    intro j hj
    rw [List.mem_range] at hj
    simp [show ¬ j + 16 = h.1 by omega]
  · simp [show h.1 - 16 + 16 = h.1 by omega]
theorem ab_wf_set {q : ab_Q} {h : ab_H} (hw : ab_wf q h) {k : Nat} (h1 : 16 ≤ k) (h2 : k < h.1) {c : ab_Ce} (hc : ab_okc c) : ab_wf q (ab_set h k c) := by
  obtain ⟨w1, w2, w3, w4⟩ := hw
  refine ⟨w1, fun j hj => ?_, fun j hj => ?_, fun j hj1 hj2 => ?_⟩
  · have hj : h.1 ≤ j := hj
    simp [ab_set, show ¬ j = k by omega, w2 j hj]
  · simp [ab_set, show ¬ j = k by omega, w3 j hj]
  · by_cases hjk : j = k
    · exact ⟨c, by simp [ab_set, hjk], hc⟩
    · obtain ⟨d, hd, hd2⟩ := w4 j hj1 hj2
      exact ⟨d, by simp [ab_set, hjk, hd], hd2⟩
theorem ab_wf_new {q : ab_Q} {h : ab_H} (hw : ab_wf q h) {c : ab_Ce} (hc : ab_okc c) : ab_wf q (ab_new h c) := by
  obtain ⟨w1, w2, w3, w4⟩ := hw
  refine ⟨Nat.le_succ_of_le w1, fun j hj => ?_, fun j hj => ?_, fun j hj1 hj2 => ?_⟩
  · have hj : h.1 + 1 ≤ j := hj
    simp [ab_new, show ¬ j = h.1 by omega, w2 j (by omega)]
  · simp [ab_new, show ¬ j = h.1 by omega, w3 j hj]
  · by_cases hjk : j = h.1
    · exact ⟨c, by simp [ab_new, hjk], hc⟩
    · have hj2 : j < h.1 + 1 := hj2
      obtain ⟨d, hd, hd2⟩ := w4 j hj1 (by omega)
      exact ⟨d, by simp [ab_new, hjk, hd], hd2⟩
/-- where a cell of a known sort lies -/
theorem ab_wf_real {q : ab_Q} {h : ab_H} (hw : ab_wf q h) {k : Nat} {c : ab_Ce} (hk : ab_get h k = some c) (hr : ∀ n xs j, ab_ro n xs j ≠ some c) : 16 ≤ k ∧ k < h.1 := by
  obtain ⟨w1, w2, w3, w4⟩ := hw
  refine ⟨?_, ?_⟩
  · rcases Nat.lt_or_ge k 16 with hl | hl
    · exact absurd ((w3 k hl).symm.trans hk) (hr _ _ _)
    · exact hl
  · rcases Nat.lt_or_ge k h.1 with hl | hl
    · exact hl
    · exact absurd ((w2 k hl).symm.trans hk) (by simp)
theorem ab_wf_ro {q : ab_Q} {h : ab_H} (hw : ab_wf q h) {k : Nat} {c : ab_Ce} (hk : ab_get h k = some c) (hr : ¬ ab_okc c) : k < 16 ∧ ab_ro (qL q) (qx q) k = some c := by
  obtain ⟨w1, w2, w3, w4⟩ := hw
  have hl : k < 16 := by
    rcases Nat.lt_or_ge k 16 with hl | hl
    · exact hl
    · rcases Nat.lt_or_ge k h.1 with hl2 | hl2
      · obtain ⟨d, hd, hd2⟩ := w4 k hl hl2
        cases hd.symm.trans hk
        exact absurd hd2 hr
      · exact absurd ((w2 k hl2).symm.trans hk) (by simp)
  exact ⟨hl, (w3 k hl).symm.trans hk⟩
theorem ab_g_real (q : ab_Q) {k : Nat} (h : 16 ≤ k) : ab_g q k = .ref (qB q + (k - 16)) := by simp [ab_g, h]
