/-! the reference: small calls -/
def inV (x lo hi : Int32) : Int32 := if x < lo then 0 else if hi < x then 0 else 1
theorem chk_in {T : Type} (x lo hi : Int32) (K : Option T) : ab_chk 1 (inV x lo hi) K = K := by
  unfold inV
  split
  · exact chk_b0 K
  · split
    · exact chk_b0 K
    · exact chk_b1 K
theorem x_in (x lo hi : Int32) (h : ab_H) : fn_X_within x lo hi h = some (some (.int (inV x lo hi)), h) := by
  rw [q_X_within]
  unfold inV
  split
  · rw [chk_b0]
  · split
    · rw [chk_b0]
    · rw [chk_b1]
theorem l_lt (x y : Int32) : x.toInt64 < y.toInt64 ↔ x < y := by
  rw [Int64.lt_iff_toInt_lt, Int32.toInt_toInt64, Int32.toInt_toInt64, Int32.lt_iff_toInt_lt]
theorem m_in (x lo hi : Int32) {L H : Int64} (eL : L = lo.toInt64) (eH : H = hi.toInt64) (h : ab_H) : fn_M_in x.toInt64 L H h = some (some (.int (inV x lo hi)), h) := by
  subst eL
  subst eH
  rw [q_M_in]
  simp only [lg_cmp_lt, lg_cmp_gt, l_lt]
  unfold inV
  split
  · rw [chk_b0]
  · split
    · rw [chk_b0]
    · rw [chk_b1]
/-- out of its bounds, or a number within them -/
theorem inV_d (x : Int32) (a n : Nat) (ha : a < 2 ^ 31) (hn : n < 2 ^ 31) : inV x (nI a) (nI n) = 0 ∨ (inV x (nI a) (nI n) = 1 ∧ ∃ k, a ≤ k ∧ k ≤ n ∧ x = nI k) := by
  unfold inV
  by_cases h1 : x < nI a
  · exact Or.inl (if_pos h1)
  · rw [if_neg h1]
    by_cases h2 : nI n < x
    · exact Or.inl (if_pos h2)
    · rw [if_neg h2]
      have h0 : ¬ x < 0 := fun z => h1 (by
        rw [Int32.lt_iff_toInt_lt] at z ⊢
        rw [nI_toInt ha]
        have : (0 : Int32).toInt = 0 := by decide
        omega)
      obtain ⟨k, hk, rfl⟩ := nI_of h0
      rw [nI_ltI hk ha] at h1
      rw [nI_ltI hn hk] at h2
      exact Or.inr ⟨rfl, k, by omega, by omega, rfl⟩
theorem inV_c (x : Int32) (n : Nat) (hn : n ≤ 5) : inV x (nI 0) (nI n - 1) = 0 ∨ (inV x (nI 0) (nI n - 1) = 1 ∧ ∃ k, k < n ∧ x = nI k) := by
  cases n with
  | zero =>
    refine Or.inl ?_
    unfold inV
    by_cases h1 : x < nI 0
    · exact if_pos h1
    · rw [if_neg h1, if_pos]
      rw [Int32.lt_iff_toInt_lt] at h1 ⊢
      have e1 : (nI 0).toInt = 0 := by decide
      have e2 : (nI 0 - 1).toInt = -1 := by decide
      omega
  | succ n =>
    rw [nI_pred]
    rcases inV_d x 0 n (by omega) (by omega) with e | ⟨e, k, h1, h2, h3⟩
    · exact Or.inl e
    · exact Or.inr ⟨e, k, by omega, h3⟩
theorem m_isPitch (x : Int32) (h : ab_H) : fn_M_isPitch x h = some (some (.int (inV x (nI 0) (nI 7))), h) := by
  rw [q_M_isPitch, m_in x (nI 0) (nI 7) (by decide) (by decide), cI_some, chk_in]
theorem x_isPitch (x : Int32) (h : ab_H) : fn_X_isPitch x h = some (some (.int (inV x (nI 0) (nI 7))), h) := by
  rw [q_X_isPitch, x_in, cI_some, chk_in]
  rfl
theorem x_isFlag (x : Int32) (h : ab_H) : fn_X_isFlag x h = some (some (.int (inV x (nI 0) (nI 1))), h) := by
  rw [q_X_isFlag, x_in, cI_some, chk_in]
  rfl
theorem ix_6 (p : Nat) : (6 : Int32) + (4 : Int32) * nI p = nI (6 + 4 * p) := by
  have : (4 : Int32) * nI p = nI (4 * p) := (Int32.ofNat_mul 4 p).symm
  rw [this]
  exact nI_add 6 (4 * p)
theorem ix_38 (p : Nat) : (38 : Int32) + (4 : Int32) * nI p = nI (38 + 4 * p) := by
  have : (4 : Int32) * nI p = nI (4 * p) := (Int32.ofNat_mul 4 p).symm
  rw [this]
  exact nI_add 38 (4 * p)
theorem ix_58 (p : Nat) : (58 : Int32) + (2 : Int32) * nI p = nI (58 + 2 * p) := by
  have : (2 : Int32) * nI p = nI (2 * p) := (Int32.ofNat_mul 2 p).symm
  rw [this]
  exact nI_add 58 (2 * p)
theorem ix_70 (p : Nat) : (70 : Int32) + (3 : Int32) * nI p = nI (70 + 3 * p) := by
  have : (3 : Int32) * nI p = nI (3 * p) := (Int32.ofNat_mul 3 p).symm
  rw [this]
  exact nI_add 70 (3 * p)
theorem nI_a0 (p : Nat) : nI p + (0 : Int32) = nI (p + 0) := nI_add p 0
theorem nI_a2 (p : Nat) : nI p + (2 : Int32) = nI (p + 2) := nI_add p 2
theorem nI_a3 (p : Nat) : nI p + (3 : Int32) = nI (p + 3) := nI_add p 3
theorem bt_01 (s i : Nat) : bt1 s i = 0 ∨ bt1 s i = 1 := by
  unfold bt1
  split
  · exact Or.inr rfl
  · exact Or.inl rfl
theorem m_hasb {s c : Nat} (hs : s < 256) (hc : c < 8) (h : ab_H) : fn_M_has (nI s) (nI c) h = some (some (.int (bt1 s c)), h) := by
  rw [q_M_has, bt_shr s hs c hc]
  rcases bt_01 s c with e | e
  · rw [e, if_neg (by decide), chk_b0]
  · rw [e, if_pos rfl, chk_b1]
section
variable {h : ab_H} {m : Nat} {A : Nat → Nat → Int32} {I : Nat → Int32} {u v : Int64}
theorem m_many : fn_M_many m (mH h m A I u v) = some (some (.int (A 0 0)), mH h m A I u v) := by
  rw [q_M_many, mr_0, ml_0_0]
theorem m_bad (a : Int32) : fn_M_bad m a (mH h m A I u v) = some (some (.int a), mH h m (ropU A 3 (upd (A 3) 0 (A 3 0 + 1))) I u v) := by
  rw [q_M_bad, mr_3, ml_3_0, ma_3_0]
theorem m_no : fn_M_no m (mH h m A I u v) = some (some (.int (-3)), mH h m (ropU A 3 (upd (A 3) 1 (A 3 1 + 1))) I u v) := by
  rw [q_M_no, mr_3, ml_3_1, ma_3_1]
theorem m_full : fn_M_full m (mH h m A I u v) = some (some (.int (-4)), mH h m (ropU A 3 (upd (A 3) 2 (A 3 2 + 1))) I u v) := by
  rw [q_M_full, mr_3, ml_3_2, ma_3_2]
theorem m_isClimber (x : Int32) {n : Nat} (e : A 0 0 = nI n) : fn_M_isClimber m x (mH h m A I u v) = some (some (.int (inV x (nI 0) (nI n - 1))), mH h m A I u v) := by
  rw [q_M_isClimber, mc, m_many, cI_some, e, m_in x (nI 0) (nI n - 1) (by decide) rfl, cI_some, chk_in]
theorem all_pow : ∀ n, n ≤ 5 → (1 : Int32) <<< (nI n &&& 31) - 1 = nI (2 ^ n - 1) := by decide +kernel
theorem m_all {n : Nat} (hn : n ≤ 5) (e : A 0 0 = nI n) : fn_M_all m (mH h m A I u v) = some (some (.int (nI (2 ^ n - 1))), mH h m A I u v) := by
  rw [q_M_all, mc, m_many, cI_some, e, all_pow n hn]
theorem m_op {p : Nat} (hp : p < 8) {j : Nat} (hj : j < 4) {x : Int32} (ex : x = nI j) : fn_M_ofPitch m (nI p) x (mH h m A I u v) = some (some (.int (A 0 (6 + 4 * p + j))), mH h m A I u v) := by
  subst ex
  rw [q_M_ofPitch, mr_0, ix_6, nI_add, ml_0 (by omega)]
theorem m_get {c : Nat} (hc : c < 5) {j : Nat} (hj : j < 4) {x : Int32} (ex : x = nI j) : fn_M_get m (nI c) x (mH h m A I u v) = some (some (.int (A 0 (38 + 4 * c + j))), mH h m A I u v) := by
  subst ex
  rw [q_M_get, mr_0, ix_38, nI_add, ml_0 (by omega)]
theorem m_hanging {c p sg rs : Nat} (place kind : Int32) (hc : c < 5) (hp : p < 8) (hsg : sg < 256) (hrs : rs < 256) (e10 : I 10 = nI sg) (e11 : I 11 = nI rs) : fn_M_hanging m (nI c) place (nI p) kind (mH h m A I u v) = some (some (.int (hangV kind (A 0 (38 + 4 * c + 1)) (A 6 c) (bt1 sg c) (bt1 rs c) place (A 0 (6 + 4 * p + 1)))), mH h m A I u v) := by
  rw [q_M_hanging, mi_11, e11, m_hasb hrs (by omega), cI_some, mi_10, e10, m_hasb hsg (by omega), cI_some]
  have e2 : (1 : Int32) + 1 = 2 := by decide
  have e3 : (2 : Int32) + 1 = 3 := by decide
  have e4 : (3 : Int32) + 1 = 4 := by decide
  have e5 : (4 : Int32) + 1 = 5 := by decide
  have z10 : ((1 : Int32) = 0) = False := eq_false (by decide)
  have z01 : ((0 : Int32) = 1) = False := eq_false (by decide)
  have z20 : ((2 : Int32) = 0) = False := eq_false (by decide)
  have hg := m_get (h := h) (m := m) (A := A) (I := I) (u := u) (v := v) hc (j := 1) (by decide) (x := 1) rfl
  have ho := m_op (h := h) (m := m) (A := A) (I := I) (u := u) (v := v) hp (j := 1) (by decide) (x := 1) rfl
  have a0 : ∀ x : Int32, x + 0 = x := fun x => Int32.add_zero x
  rcases bt_01 rs c with e | e <;> rcases bt_01 sg c with e' | e' <;> rw [e, e'] <;> simp only [q_M_hanging_56, mc, hg, ho, cI_some, mr_9, ml_6 hc, e2, e3, e4, e5, z10, z01, z20, if_true, if_false, a0] <;> unfold hangV <;> simp only [z01, if_true, if_false]
  all_goals (repeat' split) <;> first | rfl | (exfalso; simp_all; done) | (simp_all; done)
end
