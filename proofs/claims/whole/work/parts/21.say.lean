/-! who says: by place, by number; where they go -/
/-- the place of the one who says, from place i on, k places left -/
def plL (ice : Int32) (H : Nat → Int32) : Nat → Nat → Int32 → Int32 → Int32
  | 0, _, best, _ => best
  | k + 1, i, best, most => if ¬ H i ≤ 0 ∧ ice = 1 then nI i else if H i ≤ most then plL ice H k (i + 1) best most else plL ice H k (i + 1) (nI i) (H i)
def plV (n : Nat) (ice : Int32) (H : Nat → Int32) : Int32 := plL ice H n 0 (-1) 0
/-- how much hangs, by place -/
def hgR (R W : Nat → Nat → Int32) (p i : Nat) : Int32 := hangV (R 1 i) (R 2 i) (R 3 i) (R 5 i) (R 6 i) (nI i) (W 1 p)
theorem s_pos_loop {h : ab_H} {r w n : Nat} {R W : Nat → Nat → Int32} (hr : RopeAt h r n R) (hw : WallAt h w W) (hn : n ≤ 5) {p : Nat} (hp : p < 8) : ∀ (k i : Nat) (best most : Int32) (x6 : Option Value), i + k = n → pt_Rope_placeOfSayer_8 r w (nI p) best most (nI i) x6 h = some (some (.int (plL (W 0 p) (hgR R W p) k i best most)), h) := by
  intro k
  induction k with
  | zero =>
    intro i best most x6 hi
    rw [q_Rope_placeOfSayer_8, rp_n hr, if_pos (nI_le (by omega) (by omega))]
    rfl
  | succ k ih =>
    intro i best most x6 hi
    have hi5 : i < 5 := by omega
    rw [q_Rope_placeOfSayer_8, rp_n hr, if_neg (nI_ge (by omega) (by omega)), wl_r1 hw, wl_l1 hw hp, rp_c hr, s_hang hr hi5, cI_some]
    have hH : hangV (R 1 i) (R 2 i) (R 3 i) (R 5 i) (R 6 i) (nI i) (W 1 p) = hgR R W p i := rfl
    rw [hH]
    have h49 : pt_Rope_placeOfSayer_49 r w (nI p) best most (nI i) (hgR R W p i) h = some (some (.int (if hgR R W p i ≤ most then plL (W 0 p) (hgR R W p) k (i + 1) best most else plL (W 0 p) (hgR R W p) k (i + 1) (nI i) (hgR R W p i))), h) := by
      rw [q_Rope_placeOfSayer_49, nI_1]
      split
      · exact ih _ _ _ _ (by omega)
      · exact ih _ _ _ _ (by omega)
    by_cases h0 : hgR R W p i ≤ 0
    · rw [if_pos h0, h49]
      simp only [plL]
      rw [if_neg (show ¬ (¬ hgR R W p i ≤ 0 ∧ W 0 p = 1) from fun z => z.1 h0)]
    · rw [if_neg h0, wl_r0 hw, wl_l0 hw hp, h49]
      simp only [plL]
      by_cases hc : W 0 p = 1
      · rw [if_pos hc, if_pos ⟨h0, hc⟩]
      · rw [if_neg hc, if_neg (show ¬ (¬ hgR R W p i ≤ 0 ∧ W 0 p = 1) from fun z => hc z.2)]
theorem s_pos {h : ab_H} {r w n : Nat} {R W : Nat → Nat → Int32} (hr : RopeAt h r n R) (hw : WallAt h w W) (hn : n ≤ 5) {p : Nat} (hp : p < 8) : fn_Rope_placeOfSayer r w (nI p) h = some (some (.int (plV n (W 0 p) (hgR R W p))), h) := by
  rw [q_Rope_placeOfSayer]
  have := s_pos_loop hr hw hn hp n 0 (-1) 0 none (by omega)
  rw [nI_0] at this
  exact this
/-- the place is -1, or a place on the rope -/
theorem plL_in (ice : Int32) (H : Nat → Int32) : ∀ (k i : Nat) (best most : Int32) (n : Nat), i + k = n → (best = -1 ∨ ∃ j, j < n ∧ best = nI j) → (plL ice H k i best most = -1 ∨ ∃ j, j < n ∧ plL ice H k i best most = nI j)
  | 0, _, _, _, _, _, hb => hb
  | k + 1, i, best, most, n, hi, hb => by
    unfold plL
    split
    · exact Or.inr ⟨i, by omega, rfl⟩
    · split
      · exact plL_in ice H k (i + 1) best most n (by omega) hb
      · exact plL_in ice H k (i + 1) (nI i) (H i) n (by omega) (Or.inr ⟨i, by omega, rfl⟩)
theorem plV_in (n : Nat) (ice : Int32) (H : Nat → Int32) : plV n ice H = -1 ∨ ∃ j, j < n ∧ plV n ice H = nI j := plL_in ice H n 0 (-1) 0 n (by omega) (Or.inl rfl)
/-- who says, by number -/
def saV (n : Nat) (ice : Int32) (H who : Nat → Int32) : Int32 := if plV n ice H = -1 then -1 else who (plV n ice H).toNatClampNeg
/-- where they go -/
def nxV (n : Nat) (ice : Int32) (H wish : Nat → Int32) (p : Nat) (le ri : Int32) : Int32 := if plV n ice H = -1 then le else if wish (plV n ice H).toNatClampNeg >>> (nI p &&& 31) &&& 1 = 1 then ri else le
theorem nI_ne_m1 {j : Nat} (hj : j < 2 ^ 31) : ¬ nI j = -1 := fun e => by
  have h1 := nI_toInt hj
  rw [e] at h1
  have h2 : ((-1 : Int32)).toInt = -1 := by decide
  omega
theorem s_sayer {h : ab_H} {r w n : Nat} {R W : Nat → Nat → Int32} (hr : RopeAt h r n R) (hw : WallAt h w W) (hn : n ≤ 5) {p : Nat} (hp : p < 8) : fn_Rope_sayer r w (nI p) h = some (some (.int (saV n (W 0 p) (hgR R W p) (R 0))), h) := by
  rw [q_Rope_sayer, rp_c hr, s_pos hr hw hn hp, cI_some]
  rcases plV_in n (W 0 p) (hgR R W p) with e | ⟨j, hj, e⟩
  · rw [if_pos e]
    unfold saV
    rw [if_pos e]
  · have hne := nI_ne_m1 (j := j) (by omega)
    rw [e, if_neg hne, rp_r0 hr, rp_l0 hr (by omega)]
    unfold saV
    rw [e, if_neg hne, nI_clamp (by omega)]
theorem s_next {h : ab_H} {r w n : Nat} {R W : Nat → Nat → Int32} (hr : RopeAt h r n R) (hw : WallAt h w W) (hn : n ≤ 5) {p : Nat} (hp : p < 8) : fn_Rope_next r w (nI p) h = some (some (.int (nxV n (W 0 p) (hgR R W p) (R 4) p (W 2 p) (W 3 p))), h) := by
  rw [q_Rope_next, rp_c hr, s_pos hr hw hn hp, cI_some]
  have g0 : ∀ x3 x4, pt_Rope_next_31 r w (nI p) x3 x4 0 h = some (some (.int (W 2 p)), h) := fun x3 x4 => by
    rw [q_Rope_next_31, if_pos rfl, wl_r2 hw, wl_l2 hw hp]
  have g1 : ∀ x3 x4, pt_Rope_next_31 r w (nI p) x3 x4 1 h = some (some (.int (W 3 p)), h) := fun x3 x4 => by
    rw [q_Rope_next_31, if_neg (by decide), wl_r3 hw, wl_l3 hw hp]
  rw [g0, g1]
  rcases plV_in n (W 0 p) (hgR R W p) with e | ⟨j, hj, e⟩
  · rw [if_pos e]
    unfold nxV
    rw [if_pos e]
  · have hne := nI_ne_m1 (j := j) (by omega)
    rw [e, if_neg hne, rp_r4 hr, rp_l4 hr (by omega)]
    unfold nxV
    rw [e, if_neg hne, nI_clamp (by omega)]
    split <;> rfl
/-! sags and rests as bits -/
/-- a bit of a set -/
def bt1 (m i : Nat) : Int32 := if m.testBit i then 1 else 0
theorem bt_shr : ∀ m, m < 256 → ∀ i, i < 8 → nI m >>> (nI i &&& 31) &&& 1 = bt1 m i := by decide +kernel
/-- the row with its first k places by a set -/
def btU (m : Nat) (f : Nat → Int32) (k : Nat) : Nat → Int32 := fun i => if i < k then bt1 m i else f i
theorem btU_succ (m : Nat) (f : Nat → Int32) (k : Nat) : upd (btU m f k) k (bt1 m k) = btU m f (k + 1) := by
  funext i
  simp only [upd, btU]
  by_cases h1 : i = k
  · subst h1
    simp
  · by_cases h2 : i < k
    · simp [h1, h2, show i < k + 1 by omega]
    · simp [h1, h2, show ¬ i < k + 1 by omega]
theorem btU_0 (m : Nat) (f : Nat → Int32) : btU m f 0 = f := by
  funext i
  simp [btU]
/-- a rope with another row -/
def ropU (R : Nat → Nat → Int32) (j : Nat) (f : Nat → Int32) : Nat → Nat → Int32 := fun i => if i = j then f else R i
theorem rope_set5 {h : ab_H} {r n : Nat} {R : Nat → Nat → Int32} (hr : RopeAt h r n R) (f : Nat → Int32) : RopeAt (ab_set h (r + 6) (.inl (0, 5, f))) r n (ropU R 5 f) := by
  obtain ⟨h0, h1, h2, h3, h4, h5, h6, h7⟩ := hr
  refine ⟨?_, ?_, ?_, ?_, ?_, ?_, get_same _ _ _, ?_⟩ <;> rw [get_ne _ _ (by omega)] <;> assumption
theorem rope_set6 {h : ab_H} {r n : Nat} {R : Nat → Nat → Int32} (hr : RopeAt h r n R) (f : Nat → Int32) : RopeAt (ab_set h (r + 7) (.inl (0, 5, f))) r n (ropU R 6 f) := by
  obtain ⟨h0, h1, h2, h3, h4, h5, h6, h7⟩ := hr
  refine ⟨?_, ?_, ?_, ?_, ?_, ?_, ?_, get_same _ _ _⟩ <;> rw [get_ne _ _ (by omega)] <;> assumption
theorem set_set (h : ab_H) (a : Nat) (c d : ab_Ce) : ab_set (ab_set h a c) a d = ab_set h a d := by
  unfold ab_set
  congr 1
  funext k
  simp only
  split <;> rfl
theorem ropU_at (R : Nat → Nat → Int32) (j : Nat) (f : Nat → Int32) : ropU R j f j = f := by simp [ropU]
theorem ropU_ne (R : Nat → Nat → Int32) {i j : Nat} (f : Nat → Int32) (h : i ≠ j) : ropU R j f i = R i := by simp [ropU, h]
theorem set_self {h : ab_H} {a : Nat} {c : ab_Ce} (e : ab_get h a = some c) : ab_set h a c = h := by
  unfold ab_set
  obtain ⟨n, f⟩ := h
  have e : f a = some c := e
  congr 1
  funext k
  by_cases hk : k = a
  · subst hk; simp [e]
  · simp [hk]
theorem s_setSags_loop {h : ab_H} {r n : Nat} {R : Nat → Nat → Int32} (hr : RopeAt h r n R) (hn : n ≤ 5) {m : Nat} (hm : m < 256) : ∀ (k i : Nat), i + k = n → pt_Rope_setSags_2 r (nI m) (nI i) (ab_set h (r + 6) (.inl (0, 5, btU m (R 5) i))) = some (none, ab_set h (r + 6) (.inl (0, 5, btU m (R 5) n))) := by
  intro k
  induction k with
  | zero =>
    intro i hi
    have hi : i = n := by omega
    subst hi
    rw [q_Rope_setSags_2, rp_n (rope_set5 hr _), if_pos (nI_le (by omega) (by omega))]
  | succ k ih =>
    intro i hi
    rw [q_Rope_setSags_2, rp_n (rope_set5 hr _), if_neg (nI_ge (by omega) (by omega)), rp_r5 (rope_set5 hr _), bt_shr m hm i (by omega), iast_at (get_same _ _ _) (by omega) (by decide), set_set, btU_succ, nI_1]
    exact ih (i + 1) (by omega)
theorem s_setSags {h : ab_H} {r n : Nat} {R : Nat → Nat → Int32} (hr : RopeAt h r n R) (hn : n ≤ 5) {m : Nat} (hm : m < 256) : fn_Rope_setSags r (nI m) h = some (none, ab_set h (r + 6) (.inl (0, 5, btU m (R 5) n))) := by
  have := s_setSags_loop hr hn hm n 0 (by omega)
  rw [btU_0, set_self hr.2.2.2.2.2.2.1, nI_0] at this
  rw [q_Rope_setSags]
  exact this
theorem s_setRests_loop {h : ab_H} {r n : Nat} {R : Nat → Nat → Int32} (hr : RopeAt h r n R) (hn : n ≤ 5) {m : Nat} (hm : m < 256) : ∀ (k i : Nat), i + k = n → pt_Rope_setRests_2 r (nI m) (nI i) (ab_set h (r + 7) (.inl (0, 5, btU m (R 6) i))) = some (none, ab_set h (r + 7) (.inl (0, 5, btU m (R 6) n))) := by
  intro k
  induction k with
  | zero =>
    intro i hi
    have hi : i = n := by omega
    subst hi
    rw [q_Rope_setRests_2, rp_n (rope_set6 hr _), if_pos (nI_le (by omega) (by omega))]
  | succ k ih =>
    intro i hi
    rw [q_Rope_setRests_2, rp_n (rope_set6 hr _), if_neg (nI_ge (by omega) (by omega)), rp_r6 (rope_set6 hr _), bt_shr m hm i (by omega), iast_at (get_same _ _ _) (by omega) (by decide), set_set, btU_succ, nI_1]
    exact ih (i + 1) (by omega)
theorem s_setRests {h : ab_H} {r n : Nat} {R : Nat → Nat → Int32} (hr : RopeAt h r n R) (hn : n ≤ 5) {m : Nat} (hm : m < 256) : fn_Rope_setRests r (nI m) h = some (none, ab_set h (r + 7) (.inl (0, 5, btU m (R 6) n))) := by
  have := s_setRests_loop hr hn hm n 0 (by omega)
  rw [btU_0, set_self hr.2.2.2.2.2.2.2, nI_0] at this
  rw [q_Rope_setRests]
  exact this
