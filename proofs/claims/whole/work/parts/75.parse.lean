/-! Text, both: words, numbers, what an item tells -/
def CT (h : ab_H) (x : Nat) (b : Nat → Int32) (L q : Nat) : Prop := TxAt h x L b (tT b L q) (tS b L q) (tE b L q)
theorem CT.frm {h h' : ab_H} {x L q a m : Nat} {b : Nat → Int32} (hx : CT h x b L q) (f : Frm h h' a m) (hd : x + 2 ≤ a ∨ a + m ≤ x) : CT h' x b L q := TxAt.frm hx f hd
theorem mt_2 {b : Nat → Int32} {L q : Nat} : mtV b L q = 2 ↔ (tT b L q = 1 ∧ tE b L q - tS b L q ≤ 2) := by
  unfold mtV
  constructor
  · intro h
    by_cases h0 : tT b L q = 0
    · rw [if_pos h0] at h
      exact absurd h (by decide)
    · rw [if_neg h0] at h
      by_cases h1 : tT b L q = 1
      · rw [if_pos h1] at h
        by_cases h2 : tE b L q - tS b L q ≤ 2
        · exact ⟨h1, h2⟩
        · rw [if_neg h2] at h
          exact absurd h (by decide)
      · rw [if_neg h1] at h
        by_cases h2 : tT b L q = 2
        · rw [if_pos h2] at h
          exact absurd h (by decide)
        · rw [if_neg h2] at h
          by_cases h3 : tT b L q = 3
          · rw [if_pos h3] at h
            exact absurd h (by decide)
          · rw [if_neg h3] at h
            exact absurd h (by decide)
  · rintro ⟨h1, h2⟩
    rw [if_neg (by rw [h1]; decide), if_pos h1, if_pos h2]
theorem tT_01 (b : Nat → Int32) (L q : Nat) : tT b L q = 0 ∨ tT b L q = 1 ∨ tT b L q = 2 ∨ tT b L q = 3 ∨ tT b L q = 4 := by
  unfold tT
  split
  · exact Or.inr (Or.inr (Or.inr (Or.inr rfl)))
  · rcases so_cases (b (tS b L q)) with z | z | ⟨z, -⟩ | ⟨z, -⟩
    · exact Or.inl z
    · exact Or.inr (Or.inl z)
    · exact Or.inr (Or.inr (Or.inl z))
    · exact Or.inr (Or.inr (Or.inr (Or.inl z)))
theorem mt_3 {b : Nat → Int32} {L q : Nat} : mtV b L q = 3 ↔ tT b L q = 2 := by
  unfold mtV
  rcases tT_01 b L q with z | z | z | z | z <;> rw [z]
  · simp only [if_pos]; decide
  · rw [if_neg (by decide), if_pos rfl]
    constructor
    · intro h
      by_cases h2 : tE b L q - tS b L q ≤ 2
      · rw [if_pos h2] at h
        exact absurd h (by decide)
      · rw [if_neg h2] at h
        exact absurd h (by decide)
    · intro h
      exact absurd h (by decide)
  · rw [if_neg (by decide), if_neg (by decide), if_pos rfl]
    exact ⟨fun _ => rfl, fun _ => rfl⟩
  · rw [if_neg (by decide), if_neg (by decide), if_neg (by decide), if_pos rfl]
    decide
  · rw [if_neg (by decide), if_neg (by decide), if_neg (by decide), if_neg (by decide)]
    decide
theorem mt_0 {b : Nat → Int32} {L q : Nat} : mtV b L q = 0 ↔ tT b L q = 4 := by
  unfold mtV
  rcases tT_01 b L q with z | z | z | z | z <;> rw [z]
  · simp only [if_pos]; decide
  · rw [if_neg (by decide), if_pos rfl]
    constructor
    · intro h
      by_cases h2 : tE b L q - tS b L q ≤ 2
      · rw [if_pos h2] at h
        exact absurd h (by decide)
      · rw [if_neg h2] at h
        exact absurd h (by decide)
    · intro h
      exact absurd h (by decide)
  · rw [if_neg (by decide), if_neg (by decide), if_pos rfl]
    decide
  · rw [if_neg (by decide), if_neg (by decide), if_neg (by decide), if_pos rfl]
    decide
  · rw [if_neg (by decide), if_neg (by decide), if_neg (by decide), if_neg (by decide)]
    exact ⟨fun _ => rfl, fun _ => rfl⟩
theorem mt_1 {b : Nat → Int32} {L q : Nat} : mtV b L q = 1 ↔ tT b L q = 0 := by
  unfold mtV
  rcases tT_01 b L q with z | z | z | z | z <;> rw [z]
  · rw [if_pos rfl]
    exact ⟨fun _ => rfl, fun _ => rfl⟩
  · rw [if_neg (by decide), if_pos rfl]
    constructor
    · intro h
      by_cases h2 : tE b L q - tS b L q ≤ 2
      · rw [if_pos h2] at h
        exact absurd h (by decide)
      · rw [if_neg h2] at h
        exact absurd h (by decide)
    · intro h
      exact absurd h (by decide)
  · rw [if_neg (by decide), if_neg (by decide), if_pos rfl]
    decide
  · rw [if_neg (by decide), if_neg (by decide), if_neg (by decide), if_pos rfl]
    decide
  · rw [if_neg (by decide), if_neg (by decide), if_neg (by decide), if_neg (by decide)]
    decide
section
variable {h : ab_H} {m : Nat} {A : Nat → Nat → Int32} {I : Nat → Int32} {u v : Int64} {b : Nat → Int32} {L q : Nat}
theorem m_takesNo (hM : MTk I b L q) (x lo hi : Int32) (hp : ¬ pN b L q lo hi) : fn_M_takes m x lo hi (mH h m A I u v) = some (some (.int 0), mH h m A I u v) := by
  rw [q_M_takes, mi_19, hM.2.2.1]
  by_cases h2 : mtV b L q = 2
  · obtain ⟨h3, h4⟩ := mt_2.mp h2
    rw [if_pos h2, mi_20, hM.2.2.2.1 h2, m_in _ lo hi rfl rfl, cI_some]
    rcases inV_01 (nvV b L q) lo hi with e | e
    · rw [e, if_pos rfl, chk_b0]
    · exact absurd ⟨h3, h4, e⟩ hp
  · rw [if_neg h2, chk_b0]
theorem m_takesYes (hb : A 10 = b) (hM : MTk I b L q) (hL : L ≤ 150) (hq : q ≤ L) (k : Nat) (hk : k < 4) (x : Int32) (ex : x = nI k) (lo hi : Int32) (hp : pN b L q lo hi) : ∃ I', fn_M_takes m x lo hi (mH h m A I u v) = some (some (.int 1), mH h m (ropU A 12 (upd (A 12) k (nvV b L q))) I' u v) ∧ MTk I' b L (tE b L q) := by
  subst ex
  obtain ⟨h1, h2, h3⟩ := hp
  have h0 := mt_2.mpr ⟨h1, h2⟩
  obtain ⟨I', e1, t1⟩ := m_behind (h := h) (m := m) (A := ropU A 12 (upd (A 12) k (nvV b L q))) (u := u) (v := v) hb hM hL hq
  refine ⟨I', ?_, t1⟩
  rw [q_M_takes, mi_19, hM.2.2.1, if_pos h0, mi_20, hM.2.2.2.1 h0, m_in _ lo hi rfl rfl, cI_some, h3, if_neg z10, mr_22, mi_20, hM.2.2.2.1 h0, ma_12 hk, mc, e1, cV_some, chk_b1]
def wfM (a0 a1 a2 a3 a4 a5 a6 : Int32) : Nat → Int32 := fun i => if nI i = 0 then a0 else if nI i = (1 : Int32) then a1 else if nI i = (2 : Int32) then a2 else if nI i = (3 : Int32) then a3 else if nI i = (4 : Int32) then a4 else if nI i = (5 : Int32) then a5 else a6
theorem m_word0 (x : Int32) (a0 a1 a2 a3 a4 a5 a6 i : Int32) : pt_M_isWord_26 m x a0 a1 a2 a3 a4 a5 a6 0 i (mH h m A I u v) = some (some (.int 0), mH h m A I u v) := by
  rw [q_M_isWord_26, chk_b0, if_pos rfl, ite_self]
theorem m_word_loop (hb : A 10 = b) {s wl : Nat} (hs : s + wl ≤ 150) (e17 : I 17 = nI s) (a0 a1 a2 a3 a4 a5 a6 : Int32) : ∀ (d i : Nat), i + d = wl → pt_M_isWord_26 m (nI wl) a0 a1 a2 a3 a4 a5 a6 1 (nI i) (mH h m A I u v) = some (some (.int (wmL b (wfM a0 a1 a2 a3 a4 a5 a6) s d i)), mH h m A I u v) := by
  intro d
  induction d with
  | zero =>
    intro i hi
    rw [q_M_isWord_26, if_pos (nI_le (by omega) (by omega)), chk_b1]
    rfl
  | succ d ih =>
    intro i hi
    have one : ∀ t, pt_M_isWord_114 m (nI wl) a0 a1 a2 a3 a4 a5 a6 1 (nI i) (b (s + i)) t (mH h m A I u v) = some (some (.int (if b (s + i) = t then wmL b (wfM a0 a1 a2 a3 a4 a5 a6) s d (i + 1) else 0)), mH h m A I u v) := fun t => by
      rw [q_M_isWord_114, nI_1, ih (i + 1) (by omega), m_word0]
      split <;> rfl
    rw [q_M_isWord_26, if_neg (nI_ge (by omega) (by omega)), if_neg z10, mr_15, mi_17, e17, nI_add, ml_10 (by omega), hb]
    have key : ∀ (F : Int32 → Option ab_R), (if nI i = 0 then F a0 else if nI i = (1 : Int32) then F a1 else if nI i = (2 : Int32) then F a2 else if nI i = (3 : Int32) then F a3 else if nI i = (4 : Int32) then F a4 else if nI i = (5 : Int32) then F a5 else F a6) = F (wfM a0 a1 a2 a3 a4 a5 a6 i) := fun F => by
      unfold wfM
      by_cases h0 : nI i = 0
      · rw [if_pos h0, if_pos h0]
      · rw [if_neg h0, if_neg h0]
        by_cases h1 : nI i = (1 : Int32)
        · rw [if_pos h1, if_pos h1]
        · rw [if_neg h1, if_neg h1]
          by_cases h2 : nI i = (2 : Int32)
          · rw [if_pos h2, if_pos h2]
          · rw [if_neg h2, if_neg h2]
            by_cases h3 : nI i = (3 : Int32)
            · rw [if_pos h3, if_pos h3]
            · rw [if_neg h3, if_neg h3]
              by_cases h4 : nI i = (4 : Int32)
              · rw [if_pos h4, if_pos h4]
              · rw [if_neg h4, if_neg h4]
                by_cases h5 : nI i = (5 : Int32)
                · rw [if_pos h5, if_pos h5]
                · rw [if_neg h5, if_neg h5]
    refine (key (fun t => pt_M_isWord_114 m (nI wl) a0 a1 a2 a3 a4 a5 a6 1 (nI i) (b (s + i)) t (mH h m A I u v))).trans ?_
    rw [one, wmL]
theorem m_isWord (hb : A 10 = b) (hM : MTk I b L q) (hL : L ≤ 150) (hq : q ≤ L) {wl : Nat} (hw : wl < 10) (x : Int32) (ex : x = nI wl) (a0 a1 a2 a3 a4 a5 a6 : Int32) : fn_M_isWord m x a0 a1 a2 a3 a4 a5 a6 (mH h m A I u v) = some (some (.int (wdV b L q wl (wfM a0 a1 a2 a3 a4 a5 a6))), mH h m A I u v) := by
  subst ex
  have hle := tk_le b hq
  rw [q_M_isWord, mi_19, hM.2.2.1]
  unfold wdV
  by_cases h0 : tT b L q = 0
  · rw [if_pos (mt_1.mpr h0), if_pos h0, mi_18, hM.2.1]
    by_cases h1 : tE b L q - tS b L q = wl
    · have := m_word_loop (h := h) (m := m) (u := u) (v := v) hb (s := tS b L q) (wl := wl) (by omega) hM.1 a0 a1 a2 a3 a4 a5 a6 wl 0 (by omega)
      rw [nI_0] at this
      rw [if_pos (congrArg nI h1), if_pos h1, this]
    · rw [if_neg (fun e => h1 ((nI_eq (by omega) (by omega)).mp e)), if_neg h1, m_word0]
  · rw [if_neg (fun e => h0 (mt_1.mp e)), if_neg h0, m_word0]
end
theorem wm_cong {b wf wg : Nat → Int32} {s n : Nat} (e : ∀ i, i < n → wf i = wg i) : ∀ (d i : Nat), i + d ≤ n → wmL b wf s d i = wmL b wg s d i
  | 0, _, _ => rfl
  | d + 1, i, hi => by
    rw [wmL, wmL, e i (by omega), wm_cong e d (i + 1) (by omega)]
theorem wd_cong {b wf wg : Nat → Int32} {L q n : Nat} (e : ∀ i, i < n → wf i = wg i) : wdV b L q n wf = wdV b L q n wg := by
  unfold wdV
  rw [wm_cong e n 0 (by omega)]
/-- a number that stands there is small -/
theorem pN_is {b : Nat → Int32} {L q lo hi : Nat} (h1 : lo < 2 ^ 31) (h2 : hi < 2 ^ 31) (hp : pN b L q (nI lo) (nI hi)) : ∃ k, lo ≤ k ∧ k ≤ hi ∧ nvV b L q = nI k := by
  rcases inV_d (nvV b L q) lo hi h1 h2 with e | ⟨-, k, a1, a2, a3⟩
  · rw [hp.2.2] at e
    exact absurd e (by decide)
  · exact ⟨k, a1, a2, a3⟩
theorem pN_lt {b : Nat → Int32} {L q : Nat} {lo hi : Int32} (hq : q ≤ L) (hp : pN b L q lo hi) : q < tE b L q ∧ tE b L q ≤ L := by
  have h1 := tk_lt b hq (by rw [hp.1]; decide)
  have h2 := tk_le b hq
  omega
