/-! Text, the class: the token at a place; words and numbers -/
def tS (b : Nat → Int32) (L q : Nat) : Nat := spL b L (L - q) q
def tT (b : Nat → Int32) (L q : Nat) : Int32 := if L ≤ tS b L q then 4 else soV (b (tS b L q))
def tE (b : Nat → Int32) (L q : Nat) : Nat := if L ≤ tS b L q then tS b L q else exL b L (soV (b (tS b L q))) (L - (tS b L q + 1)) (tS b L q + 1)
theorem tk_le (b : Nat → Int32) {L q : Nat} (h : q ≤ L) : q ≤ tS b L q ∧ tS b L q ≤ tE b L q ∧ tE b L q ≤ L := by
  have h1 := spL_le b L (L - q) q h
  refine ⟨h1.1, ?_⟩
  unfold tE
  split
  · exact ⟨Nat.le_refl _, h1.2⟩
  · have h2 := exL_le b L (soV (b (tS b L q))) (L - (tS b L q + 1)) (tS b L q + 1) (by omega)
    omega
theorem tk_lt (b : Nat → Int32) {L q : Nat} (h : q ≤ L) (h4 : ¬ tT b L q = 4) : tS b L q < tE b L q ∧ q < tE b L q := by
  have h1 := tk_le b h
  unfold tT at h4
  by_cases hl : L ≤ tS b L q
  · exact absurd (if_pos hl) h4
  · have h2 := exL_le b L (soV (b (tS b L q))) (L - (tS b L q + 1)) (tS b L q + 1) (by omega)
    have e : tE b L q = exL b L (soV (b (tS b L q))) (L - (tS b L q + 1)) (tS b L q + 1) := by
      unfold tE
      rw [if_neg hl]
    omega
theorem t_sp_loop {x L en : Nat} {b : Nat → Int32} {tk : Int32} (hL : L ≤ 150) : ∀ (k i : Nat) (h : ab_H), i + k = L → TxAt h x L b tk i en → ∃ h', pt_Text_advance_8 x h = pt_Text_advance_46 x h' ∧ TxAt h' x L b tk (spL b L k i) en ∧ Frm h h' x 2 := by
  intro k
  induction k with
  | zero =>
    intro i h hi hx
    refine ⟨h, ?_, hx, Frm.refl _ _ _⟩
    rw [q_Text_advance_8, tx_s hx, tx_n hx, if_pos (nI_le (by omega) (by omega))]
  | succ k ih =>
    intro i h hi hx
    rw [q_Text_advance_8, tx_s hx, tx_n hx, if_neg (nI_ge (by omega) (by omega)), tx_b hx, tx_s hx, tx_l hx (by omega), spL, if_neg (show ¬ L ≤ i by omega)]
    by_cases h2 : b i = 32
    · rw [if_pos h2, if_pos h2, tx_s hx, nI_1, tx_ps hx]
      obtain ⟨h3, e3, x3, f3⟩ := ih (i + 1) _ (by omega) (tx_u hx L tk (i + 1) en)
      exact ⟨h3, e3, x3, ((Frm.set _ _ _).wide (by omega) (by omega)).trans f3⟩
    · rw [if_neg h2, if_neg h2]
      exact ⟨h, rfl, hx, Frm.refl _ _ _⟩
theorem t_adv {h : ab_H} {x L st q : Nat} {b : Nat → Int32} {tk : Int32} (hx : TxAt h x L b tk st q) (hL : L ≤ 150) (hq : q ≤ L) : ∃ h', fn_Text_advance x h = some (none, h') ∧ TxAt h' x L b (tT b L q) (tS b L q) (tE b L q) ∧ Frm h h' x 2 := by
  have hle := tk_le b hq
  obtain ⟨h1, e1, x1, f1⟩ := t_sp_loop hL (L - q) q _ (by omega) (tx_u hx L tk q q)
  have x1 : TxAt h1 x L b tk (tS b L q) q := x1
  have x2 := tx_u x1 L tk (tS b L q) (tS b L q)
  have x3 := tx_u x2 L 4 (tS b L q) (tS b L q)
  have g : Frm h h1 x 2 := ((Frm.set _ _ _).wide (by omega) (by omega)).trans f1
  rw [q_Text_advance, tx_e hx, tx_ps hx, e1, q_Text_advance_46, tx_s x1, tx_pe x1, tx_pt x2, tx_s x3, tx_n x3]
  by_cases hl : L ≤ tS b L q
  · rw [if_neg (nI_nlt hl (by omega))]
    have e4 : tT b L q = 4 := if_pos hl
    have e5 : tE b L q = tS b L q := if_pos hl
    rw [e4, e5]
    exact ⟨_, rfl, x3, (g.trans ((Frm.set _ _ _).wide (by omega) (by omega))).trans ((Frm.set _ _ _).wide (by omega) (by omega))⟩
  · rw [if_pos (nI_lt (by omega) (by omega)), tx_b x3, tx_s x3, tx_l x3 (by omega), t_sortOf, cI_some, tx_pt x3]
    have x4 := tx_u x3 L (soV (b (tS b L q))) (tS b L q) (tS b L q)
    rw [tx_e x4, nI_1, tx_pe x4]
    have x5 := tx_u x4 L (soV (b (tS b L q))) (tS b L q) (tS b L q + 1)
    obtain ⟨h6, e6, x6, f6⟩ := t_ex_loop hL (L - (tS b L q + 1)) (tS b L q + 1) _ (by omega) x5
    rw [e6]
    have e4 : tT b L q = soV (b (tS b L q)) := if_neg hl
    have e5 : tE b L q = exL b L (soV (b (tS b L q))) (L - (tS b L q + 1)) (tS b L q + 1) := if_neg hl
    rw [e4, e5]
    exact ⟨h6, rfl, x6, ((((g.trans ((Frm.set _ _ _).wide (by omega) (by omega))).trans ((Frm.set _ _ _).wide (by omega) (by omega))).trans ((Frm.set _ _ _).wide (by omega) (by omega))).trans ((Frm.set _ _ _).wide (by omega) (by omega))).trans f6⟩
/-! words -/
/-- the string constant at k: its bytes -/
def StAt (h : ab_H) (k wl : Nat) (wf : Nat → Int32) : Prop := ab_get h k = some (.inr (20, [.ref (k + 4), .int 0])) ∧ ab_get h (k + 4) = some (.inl (4, wl, wf)) ∧ wl < 10 ∧ ∀ i, i < wl → ∃ c, c < 128 ∧ wf i = nI c
theorem chk_y0 {T : Type} (K : Option T) : ab_chk 2 0 K = K := by
  unfold ab_chk; rw [if_neg (by decide), if_pos (by decide +kernel)]
theorem chr_ok : ∀ c, c < 128 → (Int32.toUInt32 (nI c &&& (255 : Int32)) % 65536).toInt32 = nI c ∧ ab_nar 3 (nI c) = true := by decide +kernel
theorem chk_c {T : Type} {c : Nat} (hc : c < 128) (K : Option T) : ab_chk 3 (nI c) K = K := by
  unfold ab_chk
  rw [if_neg (by decide), if_pos (chr_ok c hc).2]
theorem shr_0 : ∀ c, c < 10 → nI c >>> ((0 : Int32) &&& 31) = nI c := by decide +kernel
theorem st_length {h : ab_H} {k wl : Nat} {wf : Nat → Int32} (hs : StAt h k wl wf) : fn_Str_length k h = some (some (.int (nI wl)), h) := by
  obtain ⟨s1, s2, s3, s4⟩ := hs
  have ea : ∀ {T : Type} (K : Int32 → Option T), ab_alen h (k + 4) K = K (nI wl) := fun K => by
    unfold ab_alen
    rw [s2]
    rfl
  rw [q_Str_length, gfr_at s1 rfl, ea, ckc_at s1, q_Str_coder, if_neg (by decide), gfi_at s1 rfl, chk_y0, cI_some, shr_0 wl s3]
theorem st_char {h : ab_H} {k wl : Nat} {wf : Nat → Int32} (hs : StAt h k wl wf) {i : Nat} (hi : i < wl) : fn_Str_charAt k (nI i) h = some (some (.int (wf i)), h) := by
  obtain ⟨s1, s2, s3, s4⟩ := hs
  obtain ⟨c, hc, ec⟩ := s4 i hi
  have ea : ∀ {T : Type} (K : Int32 → Option T), ab_alen h (k + 4) K = K (nI wl) := fun K => by
    unfold ab_alen
    rw [s2]
    rfl
  have eb : ∀ {T : Type} (K : Int32 → Option T), ab_bald h (k + 4) (nI i) K = K (wf i) := fun K => by
    unfold ab_bald
    rw [s2]
    simp only
    rw [nI_clamp (by omega), if_pos ⟨Or.inr (Or.inr trivial), nI_n0 i (by omega), hi⟩]
  rw [q_Str_charAt, ckc_at s1, q_Str_isLatin1, if_neg (by decide), gfi_at s1 rfl, if_pos rfl, chk_b1, cI_some, if_neg (by decide), gfr_at s1 rfl, q_Lat_charAt, ea, q_Str_checkIndex, q_Pre_checkIndex, if_neg (nI_pos (by omega)), if_pos (nI_lt hi (by omega)), cI_some, cV_some, eb, ec, (chr_ok c hc).1, chk_c hc, cI_some, chk_c hc]
def wmL (b : Nat → Int32) (wf : Nat → Int32) (st : Nat) : Nat → Nat → Int32
  | 0, _ => 1
  | d + 1, i => if b (st + i) = wf i then wmL b wf st d (i + 1) else 0
def wdV (b : Nat → Int32) (L q wl : Nat) (wf : Nat → Int32) : Int32 := if tT b L q = 0 then (if tE b L q - tS b L q = wl then wmL b wf (tS b L q) wl 0 else 0) else 0
theorem wm_01 (b wf : Nat → Int32) (st : Nat) : ∀ d i, wmL b wf st d i = 0 ∨ wmL b wf st d i = 1
  | 0, _ => Or.inr rfl
  | d + 1, i => by
    unfold wmL
    split
    · exact wm_01 b wf st d (i + 1)
    · exact Or.inl rfl
theorem wd_01 (b : Nat → Int32) (L q wl : Nat) (wf : Nat → Int32) : wdV b L q wl wf = 0 ∨ wdV b L q wl wf = 1 := by
  unfold wdV
  split
  · split
    · exact wm_01 b wf _ wl 0
    · exact Or.inl rfl
  · exact Or.inl rfl
theorem t_word_loop {h : ab_H} {x L st en k wl : Nat} {b wf : Nat → Int32} {tk : Int32} (hx : TxAt h x L b tk st en) (hs : StAt h k wl wf) (hL : st + wl ≤ 150) : ∀ (d i : Nat), i + d = wl → pt_Text_isWord_27 x k (nI i) h = some (some (.int (wmL b wf st d i)), h) := by
  have h10 := hs.2.2.1
  intro d
  induction d with
  | zero =>
    intro i hi
    rw [q_Text_isWord_27, ckc_at hs.1, st_length hs, cI_some, if_pos (nI_le (by omega) (by omega)), chk_b1]
    rfl
  | succ d ih =>
    intro i hi
    rw [q_Text_isWord_27, ckc_at hs.1, st_length hs, cI_some, if_neg (nI_ge (by omega) (by omega)), tx_b hx, tx_s hx, nI_add, tx_l hx (by omega), ckc_at hs.1, st_char hs (by omega), cI_some, nI_1, wmL]
    split
    · exact ih (i + 1) (by omega)
    · rw [chk_b0]
theorem t_isWord {h : ab_H} {x L q k wl : Nat} {b wf : Nat → Int32} (hx : TxAt h x L b (tT b L q) (tS b L q) (tE b L q)) (hs : StAt h k wl wf) (hL : L ≤ 150) (hq : q ≤ L) : fn_Text_isWord x k h = some (some (.int (wdV b L q wl wf)), h) := by
  have hle := tk_le b hq
  have h10 := hs.2.2.1
  rw [q_Text_isWord, tx_t hx]
  unfold wdV
  by_cases h0 : tT b L q = 0
  · rw [if_pos h0, if_pos h0, tx_e hx, tx_s hx, ckc_at hs.1, st_length hs, cI_some, pk_sub hle.2.1]
    by_cases h1 : tE b L q - tS b L q = wl
    · have := t_word_loop hx hs (by omega) wl 0 (by omega)
      rw [nI_0] at this
      rw [if_pos (congrArg nI h1), if_pos h1, this]
    · rw [if_neg (fun e => h1 ((nI_eq (by omega) (by omega)).mp e)), if_neg h1, chk_b0]
  · rw [if_neg h0, if_neg h0, chk_b0]
/-! numbers -/
def nvL (b : Nat → Int32) : Nat → Nat → Int32 → Int32
  | 0, _, acc => acc
  | d + 1, i, acc => nvL b d (i + 1) (acc * 10 + b i - 48)
def nvV (b : Nat → Int32) (L q : Nat) : Int32 := nvL b (tE b L q - tS b L q) (tS b L q) 0
/-- a number within its bounds stands there -/
def pN (b : Nat → Int32) (L q : Nat) (lo hi : Int32) : Prop := tT b L q = 1 ∧ tE b L q - tS b L q ≤ 2 ∧ inV (nvV b L q) lo hi = 1
theorem t_num_loop {h : ab_H} {x L st en : Nat} {b : Nat → Int32} {tk : Int32} (lo hi : Int32) (hx : TxAt h x L b tk st en) (hL : en ≤ 150) : ∀ (d i : Nat) (acc : Int32), i + d = en → pt_Text_passNumber_31 x lo hi acc (nI i) h = pt_Text_passNumber_31 x lo hi (nvL b d i acc) (nI en) h := by
  intro d
  induction d with
  | zero =>
    intro i acc hi
    have e : i = en := by omega
    subst e
    rfl
  | succ d ih =>
    intro i acc hi
    rw [q_Text_passNumber_31, tx_e hx, if_neg (nI_ge (by omega) (by omega)), tx_b hx, tx_l hx (by omega), nI_1]
    exact ih (i + 1) _ (by omega)
theorem t_passNo {h : ab_H} {x L q : Nat} {b : Nat → Int32} (lo hi : Int32) (hx : TxAt h x L b (tT b L q) (tS b L q) (tE b L q)) (hL : L ≤ 150) (hq : q ≤ L) (hp : ¬ pN b L q lo hi) : fn_Text_passNumber x lo hi h = some (some (.int (-1)), h) := by
  have hle := tk_le b hq
  rw [q_Text_passNumber, tx_t hx]
  by_cases h1 : tT b L q = 1
  · rw [if_pos h1, tx_e hx, tx_s hx, pk_sub hle.2.1]
    by_cases h2 : tE b L q - tS b L q ≤ 2
    · rw [if_pos (show nI (tE b L q - tS b L q) ≤ (2 : Int32) from nI_le (b := 2) h2 (by decide)), tx_s hx, t_num_loop lo hi hx (by omega) (tE b L q - tS b L q) (tS b L q) 0 (by omega), q_Text_passNumber_31, tx_e hx, if_pos (nI_le (Nat.le_refl _) (by omega)), x_in, cI_some]
      rcases inV_01 (nvV b L q) lo hi with e | e
      · rw [show inV (nvL b (tE b L q - tS b L q) (tS b L q) 0) lo hi = 0 from e, if_pos rfl]
      · exact absurd ⟨h1, h2, e⟩ hp
    · rw [if_neg (show ¬ nI (tE b L q - tS b L q) ≤ (2 : Int32) from nI_ge (a := 2) (by omega) (by omega))]
  · rw [if_neg h1]
theorem t_passYes {h : ab_H} {x L q : Nat} {b : Nat → Int32} (lo hi : Int32) (hx : TxAt h x L b (tT b L q) (tS b L q) (tE b L q)) (hL : L ≤ 150) (hq : q ≤ L) (hp : pN b L q lo hi) : ∃ h', fn_Text_passNumber x lo hi h = some (some (.int (nvV b L q)), h') ∧ TxAt h' x L b (tT b L (tE b L q)) (tS b L (tE b L q)) (tE b L (tE b L q)) ∧ Frm h h' x 2 := by
  have hle := tk_le b hq
  obtain ⟨h1, h2, h3⟩ := hp
  obtain ⟨h', e1, x1, f1⟩ := t_adv hx hL hle.2.2
  refine ⟨h', ?_, x1, f1⟩
  rw [q_Text_passNumber, tx_t hx, if_pos h1, tx_e hx, tx_s hx, pk_sub hle.2.1, if_pos (show nI (tE b L q - tS b L q) ≤ (2 : Int32) from nI_le (b := 2) h2 (by decide)), tx_s hx, t_num_loop lo hi hx (by omega) (tE b L q - tS b L q) (tS b L q) 0 (by omega), q_Text_passNumber_31, tx_e hx, if_pos (nI_le (Nat.le_refl _) (by omega)), x_in, cI_some, show inV (nvL b (tE b L q - tS b L q) (tS b L q) 0) lo hi = 1 from h3, if_neg z10, tx_c hx, e1, cV_some]
  rfl
theorem t_stopNo {h : ab_H} {x L q : Nat} {b : Nat → Int32} (hx : TxAt h x L b (tT b L q) (tS b L q) (tE b L q)) (hp : ¬ tT b L q = 2) : fn_Text_passStop x h = some (some (.int 0), h) := by
  rw [q_Text_passStop, tx_t hx, if_neg hp, chk_b0]
theorem t_stopYes {h : ab_H} {x L q : Nat} {b : Nat → Int32} (hx : TxAt h x L b (tT b L q) (tS b L q) (tE b L q)) (hL : L ≤ 150) (hq : q ≤ L) (hp : tT b L q = 2) : ∃ h', fn_Text_passStop x h = some (some (.int 1), h') ∧ TxAt h' x L b (tT b L (tE b L q)) (tS b L (tE b L q)) (tE b L (tE b L q)) ∧ Frm h h' x 2 := by
  have hle := tk_le b hq
  obtain ⟨h', e1, x1, f1⟩ := t_adv hx hL hle.2.2
  refine ⟨h', ?_, x1, f1⟩
  rw [q_Text_passStop, tx_t hx, if_pos hp, tx_c hx, e1, cV_some, chk_b1]
