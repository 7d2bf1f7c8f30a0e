/-! locals -/
def ab_lvf (q : ab_Q) (L : ab_L) (i : Nat) : Option (Nat × Value) := match L[i]? with
  | some (some (.long x)) => (match L[i + 1]? with
    | some (some (.float _)) => some (i, .long x)
    | _ => none)
  | some (some (.int x)) => some (i, .int x)
  | some (some (.ref k)) => some (i, ab_g q k)
  | _ => none
def ab_lv (q : ab_Q) (L : ab_L) : List (Nat × Value) := (List.range L.length).filterMap (ab_lvf q L)
def ab_lr (q : ab_Q) (L : ab_L) (ls : Array Slot) (nL : Nat) : Prop := L.length = nL ∧ lv_has ls nL (ab_lv q L)
theorem ab_mono {ls : Array Slot} {n : Nat} {l l' : List (Nat × Value)} (h : lv_has ls n l) (hs : ∀ p ∈ l', p ∈ l) : lv_has ls n l' := ⟨h.1, h.2.1, fun p hp => h.2.2 p (hs p hp)⟩
theorem ab_lvf_fst {q : ab_Q} {L : ab_L} {i : Nat} {p : Nat × Value} (h : ab_lvf q L i = some p) : p.1 = i ∧ i < L.length := by
  unfold ab_lvf at h
  have hl : ∀ v, L[i]? = some v → i < L.length := fun v hv => (List.getElem?_eq_some_iff.mp hv).1
  split at h
  · rename_i x hx
    split at h
    · cases h; exact ⟨rfl, hl _ hx⟩
    · cases h
  · rename_i x hx; cases h; exact ⟨rfl, hl _ hx⟩
  · rename_i x hx; cases h; exact ⟨rfl, hl _ hx⟩
  · cases h
theorem ab_lv_mem {q : ab_Q} {L : ab_L} {p : Nat × Value} : p ∈ ab_lv q L ↔ ab_lvf q L p.1 = some p := by
  unfold ab_lv
  rw [List.mem_filterMap]
  constructor
  · rintro ⟨i, -, hi⟩
    rw [(ab_lvf_fst hi).1]
    exact hi
  · intro h
    exact ⟨p.1, List.mem_range.mpr (ab_lvf_fst h).2, h⟩
theorem ab_lr_int {q : ab_Q} {L : ab_L} {ls : Array Slot} {nL i : Nat} {x : Int32} (h : ab_lr q L ls nL) (hi : L[i]? = some (some (.int x))) : ls[i]? = some (.val (.int x)) :=
  h.2.2.2 (i, .int x) (ab_lv_mem.mpr (by simp [ab_lvf, hi]))
theorem ab_lr_ref {q : ab_Q} {L : ab_L} {ls : Array Slot} {nL i k : Nat} (h : ab_lr q L ls nL) (hi : L[i]? = some (some (.ref k))) : ls[i]? = some (.val (ab_g q k)) :=
  h.2.2.2 (i, ab_g q k) (ab_lv_mem.mpr (by simp [ab_lvf, hi]))
theorem ab_lr_long {q : ab_Q} {L : ab_L} {ls : Array Slot} {nL i : Nat} {x : Int64} {z : UInt32} (h : ab_lr q L ls nL) (hi : L[i]? = some (some (.long x))) (hj : L[i + 1]? = some (some (.float z))) : ls[i]? = some (.val (.long x)) :=
  h.2.2.2 (i, .long x) (ab_lv_mem.mpr (by simp [ab_lvf, hi, hj]))
/-- a store of one place -/
theorem ab_lv_set1 {q : ab_Q} (hg : ∀ k, (ab_g q k).category = 1) {L : ab_L} {i : Nat} {v w : Value} (hv : (∃ x, v = .int x ∧ w = .int x) ∨ ∃ k, v = .ref k ∧ w = ab_g q k) {p : Nat × Value} (hp : p ∈ ab_lv q (L.set i (some v))) : p ∈ (i, w) :: (ab_lv q L).filter (fun u => !(u.1 == i) && !(u.1 + 1 == i && u.2.category == 2)) := by
  rw [ab_lv_mem] at hp
  obtain ⟨j, z⟩ := p
  have hp : ab_lvf q (L.set i (some v)) j = some (j, z) := hp
  have hlen := (ab_lvf_fst hp).2
  rw [List.length_set] at hlen
  by_cases hj : j = i
  · subst hj
    refine List.mem_cons.mpr (Or.inl ?_)
    have e : (L.set j (some v))[j]? = some (some v) := List.getElem?_set_self hlen
    rcases hv with ⟨x, rfl, rfl⟩ | ⟨k, rfl, rfl⟩
    · simp [ab_lvf, e] at hp; rw [hp]
    · simp [ab_lvf, e] at hp; rw [hp]
  · have e : (L.set i (some v))[j]? = L[j]? := List.getElem?_set_ne (Ne.symm hj)
    refine List.mem_cons.mpr (Or.inr (List.mem_filter.mpr ⟨ab_lv_mem.mpr ?_, ?_⟩))
    · show ab_lvf q L j = some (j, z)
      unfold ab_lvf at hp ⊢
      rw [e] at hp
      split at hp
      · rename_i x hx
        by_cases hj1 : j + 1 = i
        · subst hj1
          exfalso
          by_cases hl : j + 1 < L.length
          · have e1 : (L.set (j + 1) (some v))[j + 1]? = some (some v) := List.getElem?_set_self hl
            rw [e1] at hp
            rcases hv with ⟨x, rfl, rfl⟩ | ⟨k, rfl, rfl⟩ <;> simp at hp
          · rw [List.getElem?_eq_none (by rw [List.length_set]; omega)] at hp
            simp at hp
        · rw [List.getElem?_set_ne (Ne.symm hj1)] at hp
          exact hp
      · exact hp
      · exact hp
      · cases hp
    · simp only [Bool.and_eq_true, Bool.not_eq_true', beq_eq_false_iff_ne, ne_eq]
      refine ⟨hj, ?_⟩
      by_cases hj1 : j + 1 = i
      · subst hj1
        unfold ab_lvf at hp
        rw [e] at hp
        split at hp
        · exfalso
          by_cases hl : j + 1 < L.length
          · have e1 : (L.set (j + 1) (some v))[j + 1]? = some (some v) := List.getElem?_set_self hl
            rw [e1] at hp
            rcases hv with ⟨x, rfl, rfl⟩ | ⟨k, rfl, rfl⟩ <;> simp at hp
          · rw [List.getElem?_eq_none (by rw [List.length_set]; omega)] at hp
            simp at hp
        · cases hp; simp [Value.category]
        · rename_i k hk
          simp only [Option.some.injEq, Prod.mk.injEq, true_and] at hp
          subst hp
          simp [hg k]
        · cases hp
      · simp [hj1]
/-- a store of two places -/
theorem ab_lv_set2 {q : ab_Q} (hg : ∀ k, (ab_g q k).category = 1) {L : ab_L} {i : Nat} (hi : i + 1 < L.length) {x : Int64} {p : Nat × Value} (hp : p ∈ ab_lv q ((L.set i (some (.long x))).set (i + 1) (some (.float 0)))) : p ∈ (i, Value.long x) :: (ab_lv q L).filter (fun u => !(u.1 == i) && (!(u.1 == i + 1) && !(u.1 + 1 == i && u.2.category == 2))) := by
  rw [ab_lv_mem] at hp
  obtain ⟨j, z⟩ := p
  have hp : ab_lvf q ((L.set i (some (.long x))).set (i + 1) (some (.float 0))) j = some (j, z) := hp
  have ei : ((L.set i (some (.long x))).set (i + 1) (some (.float 0)))[i]? = some (some (.long x)) := by
    rw [List.getElem?_set_ne (by omega), List.getElem?_set_self (by omega)]
  have ei1 : ((L.set i (some (.long x))).set (i + 1) (some (.float 0)))[i + 1]? = some (some (.float 0)) := List.getElem?_set_self (by rw [List.length_set]; omega)
  have eo : ∀ k : Nat, k ≠ i → k ≠ i + 1 → ((L.set i (some (.long x))).set (i + 1) (some (.float 0)))[k]? = L[k]? := fun k h1 h2 => by
    rw [List.getElem?_set_ne (Ne.symm h2), List.getElem?_set_ne (Ne.symm h1)]
  by_cases hj : j = i
  · subst hj
    refine List.mem_cons.mpr (Or.inl ?_)
    simp [ab_lvf, ei, ei1] at hp
    rw [hp]
  · by_cases hj1 : j = i + 1
    · subst hj1
      simp [ab_lvf, ei1] at hp
    · refine List.mem_cons.mpr (Or.inr (List.mem_filter.mpr ⟨ab_lv_mem.mpr ?_, ?_⟩))
      · show ab_lvf q L j = some (j, z)
        unfold ab_lvf at hp ⊢
        rw [eo j hj hj1] at hp
        split at hp
        · by_cases h2 : j + 1 = i
          · subst h2
            rw [ei] at hp
            simp at hp
          · rw [eo (j + 1) h2 (by omega)] at hp
            exact hp
        · exact hp
        · exact hp
        · cases hp
      · simp only [Bool.and_eq_true, Bool.not_eq_true', beq_eq_false_iff_ne, ne_eq]
        refine ⟨hj, hj1, ?_⟩
        by_cases h2 : j + 1 = i
        · subst h2
          unfold ab_lvf at hp
          rw [eo j hj hj1] at hp
          split at hp
          · rw [ei] at hp
            simp at hp
          · cases hp; simp [Value.category]
          · rename_i k hk
            simp only [Option.some.injEq, Prod.mk.injEq, true_and] at hp
            subst hp
            simp [hg k]
          · cases hp
        · simp [h2]
/-- a method's entry -/
theorem ab_pad_at : ∀ (n : Nat) (L : ab_L) (i : Nat) (v : Value), (ab_pad n L)[i]? = some (some v) → L[i]? = some (some v)
  | 0, _, _, _, h => by simp [ab_pad] at h
  | n + 1, [], 0, _, h => by simp [ab_pad] at h
  | n + 1, [], i + 1, v, h => by
    have := ab_pad_at n [] i v (by simpa [ab_pad] using h)
    simp at this
  | n + 1, a :: r, 0, v, h => by simpa [ab_pad] using h
  | n + 1, a :: r, i + 1, v, h => by
    have := ab_pad_at n r i v (by simpa [ab_pad] using h)
    simpa using this
theorem ab_pad_len : ∀ (n : Nat) (L : ab_L), (ab_pad n L).length = n
  | 0, _ => rfl
  | n + 1, [] => by simp [ab_pad, ab_pad_len n []]
  | n + 1, a :: r => by simp [ab_pad, ab_pad_len n r]
theorem ab_args_in {q : ab_Q} (hg : ∀ k, (ab_g q k).category = 1) : ∀ (as : List Value) (b i : Nat) (v : Value), (ab_args as)[i]? = some (some v) → ((∃ x, v = .int x ∧ (b + i, Value.int x) ∈ lv_args b (as.map (ab_cv q))) ∨ (∃ k, v = .ref k ∧ (b + i, ab_g q k) ∈ lv_args b (as.map (ab_cv q))) ∨ (∃ x, v = .long x ∧ (b + i, Value.long x) ∈ lv_args b (as.map (ab_cv q))) ∨ ((∀ x, v ≠ .int x) ∧ (∀ x, v ≠ .ref x) ∧ ∀ x, v ≠ .long x))
  | [], _, _, _, h => by simp [ab_args] at h
  | a :: r, b, i, v, h => by
    have one : ∀ (w : Value), ab_args (a :: r) = some w :: ab_args r → (ab_cv q a).category = 1 → a = w → ((∃ x, v = .int x ∧ (b + i, Value.int x) ∈ lv_args b ((a :: r).map (ab_cv q))) ∨ (∃ k, v = .ref k ∧ (b + i, ab_g q k) ∈ lv_args b ((a :: r).map (ab_cv q))) ∨ (∃ x, v = .long x ∧ (b + i, Value.long x) ∈ lv_args b ((a :: r).map (ab_cv q))) ∨ ((∀ x, v ≠ .int x) ∧ (∀ x, v ≠ .ref x) ∧ ∀ x, v ≠ .long x)) := by
      intro w e hc haw
      subst haw
      rw [e] at h
      have hn : ¬ (ab_cv q a).category = 2 := by omega
      cases i with
      | zero =>
        simp only [List.getElem?_cons_zero, Option.some.injEq] at h
        subst h
        cases a with
        | int x => exact Or.inl ⟨x, rfl, by simp [lv_args, ab_cv]⟩
        | ref k => exact Or.inr (Or.inl ⟨k, rfl, by simp [lv_args, ab_cv]⟩)
        | long x => simp [ab_cv, Value.category] at hc
        | _ => exact Or.inr (Or.inr (Or.inr ⟨by simp, by simp, by simp⟩))
      | succ i =>
        simp only [List.getElem?_cons_succ] at h
        have ih := ab_args_in hg r (b + 1) i v h
        rw [show b + (i + 1) = b + 1 + i by omega]
        simp only [List.map_cons, lv_args, hn, if_false, List.mem_cons]
        rcases ih with ⟨x, h1, h2⟩ | ⟨x, h1, h2⟩ | ⟨x, h1, h2⟩ | h1
        · exact Or.inl ⟨x, h1, Or.inr h2⟩
        · exact Or.inr (Or.inl ⟨x, h1, Or.inr h2⟩)
        · exact Or.inr (Or.inr (Or.inl ⟨x, h1, Or.inr h2⟩))
        · exact Or.inr (Or.inr (Or.inr h1))
    cases a with
    | long x =>
      simp only [ab_args] at h
      match i, h with
      | 0, h =>
        simp only [List.getElem?_cons_zero, Option.some.injEq] at h
        subst h
        exact Or.inr (Or.inr (Or.inl ⟨x, rfl, by simp [lv_args, ab_cv]⟩))
      | 1, h =>
        simp only [List.getElem?_cons_succ, List.getElem?_cons_zero, Option.some.injEq] at h
        subst h
        exact Or.inr (Or.inr (Or.inr ⟨by simp, by simp, by simp⟩))
      | i + 2, h =>
        simp only [List.getElem?_cons_succ] at h
        have ih := ab_args_in hg r (b + 2) i v h
        rw [show b + (i + 2) = b + 2 + i by omega]
        simp only [List.map_cons, lv_args, ab_cv, Value.category, if_true, List.mem_cons]
        rcases ih with ⟨x, h1, h2⟩ | ⟨x, h1, h2⟩ | ⟨x, h1, h2⟩ | h1
        · exact Or.inl ⟨x, h1, Or.inr h2⟩
        · exact Or.inr (Or.inl ⟨x, h1, Or.inr h2⟩)
        · exact Or.inr (Or.inr (Or.inl ⟨x, h1, Or.inr h2⟩))
        · exact Or.inr (Or.inr (Or.inr h1))
    | int x => exact one _ rfl rfl rfl
    | ref k => exact one _ rfl (hg k) rfl
    | float x => exact one _ rfl rfl rfl
    | null => exact one _ rfl rfl rfl
    | retAddr x => exact one _ rfl rfl rfl
    | double x =>
      simp only [ab_args] at h
      match i, h with
      | 0, h =>
        simp only [List.getElem?_cons_zero, Option.some.injEq] at h
        subst h
        exact Or.inr (Or.inr (Or.inr ⟨by simp, by simp, by simp⟩))
      | 1, h =>
        simp only [List.getElem?_cons_succ, List.getElem?_cons_zero, Option.some.injEq] at h
        subst h
        exact Or.inr (Or.inr (Or.inr ⟨by simp, by simp, by simp⟩))
      | i + 2, h =>
        simp only [List.getElem?_cons_succ] at h
        have ih := ab_args_in hg r (b + 2) i v h
        rw [show b + (i + 2) = b + 2 + i by omega]
        simp only [List.map_cons, lv_args, ab_cv, Value.category, if_true, List.mem_cons]
        rcases ih with ⟨x, h1, h2⟩ | ⟨x, h1, h2⟩ | ⟨x, h1, h2⟩ | h1
        · exact Or.inl ⟨x, h1, Or.inr h2⟩
        · exact Or.inr (Or.inl ⟨x, h1, Or.inr h2⟩)
        · exact Or.inr (Or.inr (Or.inl ⟨x, h1, Or.inr h2⟩))
        · exact Or.inr (Or.inr (Or.inr h1))
theorem ab_lr_ent {q : ab_Q} (hg : ∀ k, (ab_g q k).category = 1) {as : List Value} {n : Nat} (h : (lg_sl (as.map (ab_cv q))).length ≤ n) : ab_lr q (ab_ent n as) ((lg_sl (as.map (ab_cv q)) ++ List.replicate (n - (lg_sl (as.map (ab_cv q))).length) Slot.unset).toArray) n := by
  refine ⟨ab_pad_len n _, ab_mono (lv_entry _ h) fun p hp => ?_⟩
  rw [ab_lv_mem] at hp
  obtain ⟨i, z⟩ := p
  have hp : ab_lvf q (ab_ent n as) i = some (i, z) := hp
  unfold ab_lvf at hp
  split at hp
  · rename_i x hx
    split at hp
    · cases hp
      rcases ab_args_in hg as 0 i _ (ab_pad_at n _ i _ hx) with ⟨x, h1, h2⟩ | ⟨x, h1, h2⟩ | ⟨x, h1, h2⟩ | h1
      · cases h1
      · cases h1
      · cases h1; rw [Nat.zero_add] at h2; exact h2
      · exact absurd rfl (h1.2.2 _)
    · cases hp
  · rename_i x hx
    cases hp
    rcases ab_args_in hg as 0 i _ (ab_pad_at n _ i _ hx) with ⟨x, h1, h2⟩ | ⟨x, h1, h2⟩ | ⟨x, h1, h2⟩ | h1
    · cases h1; rw [Nat.zero_add] at h2; exact h2
    · cases h1
    · cases h1
    · exact absurd rfl (h1.1 _)
  · rename_i x hx
    simp only [Option.some.injEq, Prod.mk.injEq, true_and] at hp
    subst hp
    rcases ab_args_in hg as 0 i _ (ab_pad_at n _ i _ hx) with ⟨x, h1, h2⟩ | ⟨x, h1, h2⟩ | ⟨x, h1, h2⟩ | h1
    · cases h1
    · cases h1; rw [Nat.zero_add] at h2; exact h2
    · cases h1
    · exact absurd rfl (h1.2.1 _)
  · cases hp
