/-! the class's next order is the next code that is an order -/
def nfP (n : Nat) : Nat → Nat → Option Nat
  | 0, _ => none
  | k + 1, c => if uL n n c 0 = 2 ^ n - 1 then some c else nfP n k (c + 1)
def cnP (n : Nat) : Nat → Nat → Nat
  | 0, _ => 0
  | k + 1, c => (if uL n n c 0 = 2 ^ n - 1 then 1 else 0) + cnP n k (c + 1)
def oc (n c : Nat) : Nat → Int32 := fun j => nI (dg n n c j)
def cmB (n : Nat) : Option (Nat → Int32) → Option Nat → Bool
  | none, none => true
  | some O, some c => (List.range n).all (fun j => decide (O j = oc n c j))
  | _, _ => false
def chkB (n c : Nat) : Bool := if uL n n c 0 = 2 ^ n - 1 then cmB n (nxO (oc n c) (n - 1) (n - 1)) (nfP n (n ^ n - (c + 1)) (c + 1)) else true
theorem chk_1 : ∀ c, c < 1 → chkB 1 c = true := by decide +kernel
theorem chk_2 : ∀ c, c < 4 → chkB 2 c = true := by decide +kernel
theorem chk_3 : ∀ c, c < 27 → chkB 3 c = true := by decide +kernel
theorem chk_4 : ∀ c, c < 256 → chkB 4 c = true := by decide +kernel
theorem chk_5' : ∀ a, a < 25 → ∀ b, b < 125 → chkB 5 (125 * a + b) = true := by decide +kernel
theorem chk_5 (c : Nat) (h : c < 3125) : chkB 5 c = true := by
  have := chk_5' (c / 125) (by omega) (c % 125) (Nat.mod_lt _ (by decide))
  rwa [Nat.div_add_mod] at this
theorem cnP_all : ∀ n, n < 6 → cnP n (n ^ n) 0 ≤ 120 := by decide +kernel
def fstB (n : Nat) : Bool := match nfP n (n ^ n) 0 with
  | some c => (List.range n).all (fun j => decide (dg n n c j = j))
  | none => false
theorem fst_all : ∀ n, n < 5 → fstB (n + 1) = true := by decide +kernel
theorem chk_all {n c : Nat} (h0 : 0 < n) (hn : n ≤ 5) (hc : c < n ^ n) : chkB n c = true := by
  match n, h0, hn, hc with
  | 1, _, _, hc => exact chk_1 c hc
  | 2, _, _, hc => exact chk_2 c hc
  | 3, _, _, hc => exact chk_3 c hc
  | 4, _, _, hc => exact chk_4 c hc
  | 5, _, _, hc => exact chk_5 c hc
  | k + 6, _, hn, _ => omega
def Ag (n : Nat) (O P : Nat → Int32) : Prop := ∀ j, j < n → O j = P j
section
variable {m : Nat} {O P : Nat → Int32}
theorem grN_cong (h : Ag (m + 1) O P) {r : Nat} (hr : r ≤ m) : ∀ g, g ≤ m → grN O r g = grN P r g
  | 0, _ => rfl
  | g + 1, hg => by
    unfold grN
    rw [h r (by omega), h (g + 1) (by omega), grN_cong h hr g (by omega)]
theorem swO_cong (h : Ag (m + 1) O P) {i j : Nat} (hi : i ≤ m) (hj : j ≤ m) : Ag (m + 1) (swO O i j) (swO P i j) := by
  intro k hk
  unfold swO upd
  rw [h i (by omega), h j (by omega)]
  split
  · rfl
  · split
    · rfl
    · exact h k hk
theorem rvO_cong : ∀ (f l u : Nat) (O P : Nat → Int32), u ≤ m → Ag (m + 1) O P → Ag (m + 1) (rvO f O l u) (rvO f P l u)
  | 0, _, _, _, _, _, h => h
  | f + 1, l, u, O, P, hu, h => by
    unfold rvO
    split
    · exact h
    · exact rvO_cong f (l + 1) (u - 1) _ _ (by omega) (swO_cong h (by omega) hu)
theorem goO_cong (h : Ag (m + 1) O P) {r : Nat} (hr : r ≤ m) : Ag (m + 1) (goO O m r) (goO P m r) := by
  unfold goO
  rw [grN_cong h hr m (Nat.le_refl _)]
  exact rvO_cong 5 (r + 1) m _ _ (Nat.le_refl _) (swO_cong h hr (grN_le P r m))
theorem nxO_cong (h : Ag (m + 1) O P) : ∀ r, r ≤ m → (nxO O m r = none ∧ nxO P m r = none) ∨ ∃ O' P', nxO O m r = some O' ∧ nxO P m r = some P' ∧ Ag (m + 1) O' P'
  | 0, _ => Or.inl ⟨rfl, rfl⟩
  | r + 1, hr => by
    unfold nxO
    rw [h r (by omega), h (r + 1) (by omega)]
    split
    · exact Or.inr ⟨_, _, rfl, rfl, goO_cong h (by omega)⟩
    · exact nxO_cong h r (by omega)
end
theorem ts_le (n : Nat) (R V : Nat → Nat → Int32) (x : Int32) : ∀ (k i y : Nat), ∃ z, tsL n R V x k i (nI y) = nI z ∧ z ≤ y + k
  | 0, _, y => ⟨y, rfl, Nat.le_refl _⟩
  | k + 1, i, y => by
    rw [tsL, nI_1, add_0]
    split
    · obtain ⟨z, e, h⟩ := ts_le n R V x k (i + 1) (y + 1)
      exact ⟨z, e, by omega⟩
    · obtain ⟨z, e, h⟩ := ts_le n R V x k (i + 1) y
      exact ⟨z, e, by omega⟩
theorem ty_le (n : Nat) (Q V : Nat → Nat → Int32) (x : Int32) (w : Nat → Nat) {most : Int32} (h8 : 8 ≤ most) : tyV n Q V x w ≤ most := by
  obtain ⟨z, e, h⟩ := ts_le n (ropU (fun j i => Q j (w i)) 5 (bt1 0)) V x 8 0 0
  unfold tyV
  rw [nI_0] at e
  rw [e, Int32.le_iff_toInt_le, nI_toInt (by omega)]
  rw [Int32.le_iff_toInt_le] at h8
  have : (8 : Int32).toInt = 8 := by decide
  omega
theorem ty_nn (n : Nat) (Q V : Nat → Nat → Int32) (x : Int32) (w : Nat → Nat) : ¬ tyV n Q V x w ≤ -1 := by
  obtain ⟨z, e, h⟩ := ts_le n (ropU (fun j i => Q j (w i)) 5 (bt1 0)) V x 8 0 0
  unfold tyV
  rw [nI_0] at e
  rw [e, Int32.le_iff_toInt_le, nI_toInt (by omega)]
  have : (-1 : Int32).toInt = -1 := by decide
  omega
theorem tdL_stay (n : Nat) (Q V : Nat → Nat → Int32) (x : Int32) {most : Int32} (h8 : 8 ≤ most) : ∀ (k c : Nat) (B : Nat → Int32), tdL n Q V x k c most B = (most, B)
  | 0, _, _ => rfl
  | k + 1, c, B => by
    unfold tdL
    rw [if_pos (ty_le n Q V x (dg n n c) h8), tdL_stay n Q V x h8 k (c + 1) B, ite_self]
theorem tm_ag {n c : Nat} (hn : n ≤ 5) (h0 : 0 < n) (Q V : Nat → Nat → Int32) (x : Int32) {O : Nat → Int32} (h : Ag n O (oc n c)) : tmO n Q V x O = tyV n Q V x (dg n n c) := by
  refine tsL_cong hn x ?_ 8 0 0 (by omega)
  intro j hj i hi
  have e : (O i).toNatClampNeg = dg n n c i := by
    rw [h i hi]
    have := dg_lt h0 n c i
    exact nI_clamp (by omega)
  unfold ropU
  split
  · rfl
  · show Q j (O i).toNatClampNeg = Q j (dg n n c i)
    rw [e]
def bfO (n : Nat) (Q V : Nat → Nat → Int32) (x : Int32) (f : Nat) (o : Option (Nat → Int32)) (most : Int32) (B : Nat → Int32) : Int32 × (Nat → Int32) := match o with
  | none => (most, B)
  | some O => bfL n Q V x f O most B
def corO (n : Nat) (o : Option (Nat → Int32)) (q : Option Nat) : Prop := (o = none ∧ q = none) ∨ ∃ O c, o = some O ∧ q = some c ∧ Ag n O (oc n c)
theorem corO_of {n : Nat} {o : Option (Nat → Int32)} {q : Option Nat} (h : cmB n o q = true) : corO n o q := by
  cases o with
  | none =>
    cases q with
    | none => exact Or.inl ⟨rfl, rfl⟩
    | some c => cases h
  | some O =>
    cases q with
    | none => cases h
    | some c =>
      refine Or.inr ⟨O, c, rfl, rfl, fun j hj => ?_⟩
      unfold cmB at h
      rw [List.all_eq_true] at h
      exact of_decide_eq_true (h j (List.mem_range.mpr hj))
theorem bf_td {n : Nat} (hn : n ≤ 5) (h0 : 0 < n) (Q V : Nat → Nat → Int32) (x : Int32) : ∀ (k c f : Nat) (most : Int32) (B B' : Nat → Int32) (o : Option (Nat → Int32)), c + k = n ^ n → corO n o (nfP n k c) → cnP n k c ≤ f → (Ag n B B' ∨ (most = -1 ∧ o ≠ none)) → (bfO n Q V x f o most B).1 = (tdL n Q V x k c most B').1 ∧ Ag n (bfO n Q V x f o most B).2 (tdL n Q V x k c most B').2 := by
  intro k
  induction k with
  | zero =>
    intro c f most B B' o hc ho hf hB
    rcases ho with ⟨h1, h2⟩ | ⟨O, d, h1, h2, h3⟩
    · subst h1
      rcases hB with hB | ⟨-, hB⟩
      · exact ⟨rfl, hB⟩
      · exact absurd rfl hB
    · cases h2
  | succ k ih =>
    intro c f most B B' o hc ho hf hB
    rw [nfP] at ho
    rw [cnP] at hf
    rw [tdL]
    by_cases hu : uL n n c 0 = 2 ^ n - 1
    · rw [if_pos hu] at ho hf ⊢
      rcases ho with ⟨h1, h2⟩ | ⟨O, d, h1, h2, h3⟩
      · cases h2
      · cases h2
        subst h1
        match f, hf with
        | 0, hf => omega
        | f + 1, hf =>
        have hck := chk_all h0 hn (show c < n ^ n by omega)
        unfold chkB at hck
        rw [if_pos hu, show n ^ n - (c + 1) = k by omega] at hck
        have hcr := corO_of hck
        have hcor : corO n (nxO O (n - 1) (n - 1)) (nfP n k (c + 1)) := by
          have hag : Ag (n - 1 + 1) O (oc n c) := by
            rw [show n - 1 + 1 = n by omega]
            exact h3
          rcases nxO_cong hag (n - 1) (Nat.le_refl _) with ⟨g1, g2⟩ | ⟨O', P', g1, g2, g3⟩
          · rw [g2] at hcr
            rw [g1]
            exact hcr
          · rw [g2] at hcr
            rw [g1]
            rcases hcr with ⟨z1, -⟩ | ⟨O2, c2, z1, z2, z3⟩
            · cases z1
            · cases z1
              refine Or.inr ⟨O', c2, rfl, z2, fun j hj => ?_⟩
              rw [g3 j (by omega)]
              exact z3 j hj
        have ht := tm_ag hn h0 Q V x h3
        have eb : bfO n Q V x (f + 1) (some O) most B = if 8 ≤ most then (most, B) else if tyV n Q V x (dg n n c) ≤ most then bfO n Q V x f (nxO O (n - 1) (n - 1)) most B else bfO n Q V x f (nxO O (n - 1) (n - 1)) (tyV n Q V x (dg n n c)) (va_cpy O B 0 0 n) := by
          show bfL n Q V x (f + 1) O most B = _
          rw [bfL, ← ht]
          unfold bfO
          cases nxO O (n - 1) (n - 1) <;> rfl
        rw [eb]
        by_cases h8 : 8 ≤ most
        · rw [if_pos h8, if_pos (ty_le n Q V x (dg n n c) h8), tdL_stay n Q V x h8]
          rcases hB with hB | ⟨hB, -⟩
          · exact ⟨rfl, hB⟩
          · subst hB
            exact absurd h8 (by decide)
        · rw [if_neg h8]
          by_cases hm : tyV n Q V x (dg n n c) ≤ most
          · rw [if_pos hm, if_pos hm]
            rcases hB with hB | ⟨hB, -⟩
            · exact ih (c + 1) f most B B' _ (by omega) hcor (by omega) (Or.inl hB)
            · subst hB
              exact absurd hm (ty_nn n Q V x _)
          · rw [if_neg hm, if_neg hm]
            refine ih (c + 1) f _ _ _ _ (by omega) hcor (by omega) (Or.inl fun j hj => ?_)
            rw [pk_cpy_in (by omega) (by omega), Nat.zero_add, Nat.sub_zero]
            exact h3 j hj
    · rw [if_neg hu] at ho hf ⊢
      exact ih (c + 1) f most B B' o (by omega) ho (by omega) hB
theorem bf_all {n : Nat} (hn : n ≤ 5) (h0 : 0 < n) (Q V : Nat → Nat → Int32) (x : Int32) {P : Nat → Int32} (hP : ∀ j, j < n → P j = nI j) (B B' : Nat → Int32) : (bfL n Q V x 120 P (-1) B).1 = (tdL n Q V x (n ^ n) 0 (-1) B').1 ∧ Ag n (bfL n Q V x 120 P (-1) B).2 (tdL n Q V x (n ^ n) 0 (-1) B').2 := by
  refine bf_td hn h0 Q V x (n ^ n) 0 120 (-1) B B' (some P) (by omega) ?_ (cnP_all n (by omega)) (Or.inr ⟨rfl, fun z => by cases z⟩)
  have hf := fst_all (n - 1) (by omega)
  rw [show n - 1 + 1 = n by omega] at hf
  unfold fstB at hf
  cases hq : nfP n (n ^ n) 0 with
  | none => rw [hq] at hf; cases hf
  | some c =>
    rw [hq] at hf
    refine Or.inr ⟨P, c, rfl, rfl, fun j hj => ?_⟩
    have hf : (List.range n).all (fun j => decide (dg n n c j = j)) = true := hf
    rw [List.all_eq_true] at hf
    rw [hP j hj]
    show nI j = nI (dg n n c j)
    rw [of_decide_eq_true (hf j (List.mem_range.mpr hj))]
