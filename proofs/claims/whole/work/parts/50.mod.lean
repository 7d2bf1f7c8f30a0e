/-! THE REFERENCE'S OBJECT as a heap of its own form: m its place, A its rows (now, kept, isKept, refused, tiedTo, kinds, weighs, costs, bestOrder, sayers, bytes, anew, values), I its ints, u by v the fraction (by program, gen/mod.py) -/
def mCell (m : Nat) (A : Nat → Nat → Int32) (I : Nat → Int32) (u v : Int64) : Nat → Option ab_Ce
  | 0 => some (.inr (11, [.ref (m + 1), .ref (m + 2), .ref (m + 3), .ref (m + 4), .long u, .long v, .ref (m + 5), .int (I 7), .ref (m + 6), .ref (m + 7), .int (I 10), .int (I 11), .ref (m + 8), .ref (m + 9), .ref (m + 10), .ref (m + 11), .int (I 16), .int (I 17), .int (I 18), .int (I 19), .int (I 20), .ref (m + 12), .ref (m + 13)]))
  | 1 => some (.inl (0, 94, A 0))
  | 2 => some (.inl (0, 188, A 1))
  | 3 => some (.inl (2, 2, A 2))
  | 4 => some (.inl (0, 3, A 3))
  | 5 => some (.inl (0, 5, A 4))
  | 6 => some (.inl (0, 5, A 5))
  | 7 => some (.inl (0, 5, A 6))
  | 8 => some (.inl (0, 9, A 7))
  | 9 => some (.inl (0, 5, A 8))
  | 10 => some (.inl (0, 4, A 9))
  | 11 => some (.inl (0, 150, A 10))
  | 12 => some (.inl (0, 70, A 11))
  | 13 => some (.inl (0, 4, A 12))
  | _ => none
def mH (h : ab_H) (m : Nat) (A : Nat → Nat → Int32) (I : Nat → Int32) (u v : Int64) : ab_H := (h.1, fun k => if m ≤ k ∧ k < m + 14 then mCell m A I u v (k - m) else h.2 k)
theorem mH_get (h : ab_H) (m : Nat) (A : Nat → Nat → Int32) (I : Nat → Int32) (u v : Int64) {j : Nat} (hj : j < 14) : ab_get (mH h m A I u v) (m + j) = mCell m A I u v j := by
  show (if m ≤ m + j ∧ m + j < m + 14 then mCell m A I u v (m + j - m) else h.2 (m + j)) = _
  rw [if_pos ⟨by omega, by omega⟩, Nat.add_sub_cancel_left]
theorem mH_frm (h : ab_H) (m : Nat) (A : Nat → Nat → Int32) (I : Nat → Int32) (u v : Int64) : Frm h (mH h m A I u v) m 14 := by
  refine ⟨rfl, fun k hk => ?_⟩
  show (if m ≤ k ∧ k < m + 14 then mCell m A I u v (k - m) else h.2 k) = h.2 k
  rw [if_neg (by omega)]
theorem mH_mH (h : ab_H) (m : Nat) (A B : Nat → Nat → Int32) (I J : Nat → Int32) (u v y z : Int64) : mH (mH h m A I u v) m B J y z = mH h m B J y z := by
  unfold mH
  congr 1
  funext k
  dsimp only
  split <;> rfl
theorem mH_set (h : ab_H) (m : Nat) (A B : Nat → Nat → Int32) (I J : Nat → Int32) (u v y z : Int64) {j : Nat} (hj : j < 14) {c : ab_Ce} (hc : mCell m B J y z j = some c) (ho : ∀ i, i < 14 → i ≠ j → mCell m B J y z i = mCell m A I u v i) : ab_set (mH h m A I u v) (m + j) c = mH h m B J y z := by
  unfold mH ab_set
  congr 1
  funext k
  dsimp only
  by_cases hk : k = m + j
  · subst hk
    rw [if_pos rfl, if_pos ⟨by omega, by omega⟩, Nat.add_sub_cancel_left, hc]
  · rw [if_neg hk]
    by_cases hr : m ≤ k ∧ k < m + 14
    · rw [if_pos hr, if_pos hr, ho (k - m) (by omega) (by omega)]
    · rw [if_neg hr, if_neg hr]
theorem mH_self {h : ab_H} {m : Nat} {A : Nat → Nat → Int32} {I : Nat → Int32} {u v : Int64} (e : ∀ j, j < 14 → ab_get h (m + j) = mCell m A I u v j) : mH h m A I u v = h := by
  obtain ⟨n, g⟩ := h
  unfold mH
  congr 1
  funext k
  dsimp only
  by_cases hr : m ≤ k ∧ k < m + 14
  · rw [if_pos hr, ← e (k - m) (by omega)]
    show g (m + (k - m)) = g k
    rw [show m + (k - m) = k by omega]
  · rw [if_neg hr]
/-- the reference's cells stay where others are written -/
theorem mH_keep {h h1 : ab_H} {m a n : Nat} {A : Nat → Nat → Int32} {I : Nat → Int32} {u v : Int64} (e : h = mH h m A I u v) (f : Frm h h1 a n) (hd : a + n ≤ m) : h1 = mH h1 m A I u v := by
  refine (mH_self fun j hj => ?_).symm
  rw [f.2 _ (by omega), e, mH_get _ _ _ _ _ _ hj]
theorem fin14 {P : Nat → Prop} (h0 : P 0) (h1 : P 1) (h2 : P 2) (h3 : P 3) (h4 : P 4) (h5 : P 5) (h6 : P 6) (h7 : P 7) (h8 : P 8) (h9 : P 9) (h10 : P 10) (h11 : P 11) (h12 : P 12) (h13 : P 13) : ∀ i, i < 14 → P i := by
  intro i hi
  match i, hi with
  | 0, _ => exact h0
  | 1, _ => exact h1
  | 2, _ => exact h2
  | 3, _ => exact h3
  | 4, _ => exact h4
  | 5, _ => exact h5
  | 6, _ => exact h6
  | 7, _ => exact h7
  | 8, _ => exact h8
  | 9, _ => exact h9
  | 10, _ => exact h10
  | 11, _ => exact h11
  | 12, _ => exact h12
  | 13, _ => exact h13
  | n + 14, hi => omega
section
variable {T : Type} {h : ab_H} {m : Nat} {A : Nat → Nat → Int32} {I : Nat → Int32} {u v : Int64}
theorem mg_0 : ab_get (mH h m A I u v) m = some (.inr (11, [.ref (m + 1), .ref (m + 2), .ref (m + 3), .ref (m + 4), .long u, .long v, .ref (m + 5), .int (I 7), .ref (m + 6), .ref (m + 7), .int (I 10), .int (I 11), .ref (m + 8), .ref (m + 9), .ref (m + 10), .ref (m + 11), .int (I 16), .int (I 17), .int (I 18), .int (I 19), .int (I 20), .ref (m + 12), .ref (m + 13)])) := mH_get h m A I u v (j := 0) (by decide)
theorem mg_1 : ab_get (mH h m A I u v) (m + 1) = some (.inl (0, 94, A 0)) := mH_get h m A I u v (j := 1) (by decide)
theorem mg_2 : ab_get (mH h m A I u v) (m + 2) = some (.inl (0, 188, A 1)) := mH_get h m A I u v (j := 2) (by decide)
theorem mg_3 : ab_get (mH h m A I u v) (m + 3) = some (.inl (2, 2, A 2)) := mH_get h m A I u v (j := 3) (by decide)
theorem mg_4 : ab_get (mH h m A I u v) (m + 4) = some (.inl (0, 3, A 3)) := mH_get h m A I u v (j := 4) (by decide)
theorem mg_5 : ab_get (mH h m A I u v) (m + 5) = some (.inl (0, 5, A 4)) := mH_get h m A I u v (j := 5) (by decide)
theorem mg_6 : ab_get (mH h m A I u v) (m + 6) = some (.inl (0, 5, A 5)) := mH_get h m A I u v (j := 6) (by decide)
theorem mg_7 : ab_get (mH h m A I u v) (m + 7) = some (.inl (0, 5, A 6)) := mH_get h m A I u v (j := 7) (by decide)
theorem mg_8 : ab_get (mH h m A I u v) (m + 8) = some (.inl (0, 9, A 7)) := mH_get h m A I u v (j := 8) (by decide)
theorem mg_9 : ab_get (mH h m A I u v) (m + 9) = some (.inl (0, 5, A 8)) := mH_get h m A I u v (j := 9) (by decide)
theorem mg_10 : ab_get (mH h m A I u v) (m + 10) = some (.inl (0, 4, A 9)) := mH_get h m A I u v (j := 10) (by decide)
theorem mg_11 : ab_get (mH h m A I u v) (m + 11) = some (.inl (0, 150, A 10)) := mH_get h m A I u v (j := 11) (by decide)
theorem mg_12 : ab_get (mH h m A I u v) (m + 12) = some (.inl (0, 70, A 11)) := mH_get h m A I u v (j := 12) (by decide)
theorem mg_13 : ab_get (mH h m A I u v) (m + 13) = some (.inl (0, 4, A 12)) := mH_get h m A I u v (j := 13) (by decide)
theorem mc (K : Option T) : ab_ckc (mH h m A I u v) m 11 K = K := ckc_at mg_0 K
theorem mr_0 (K : Nat → Option T) : ab_gfr (mH h m A I u v) m 11 0 K = K (m + 1) := gfr_at mg_0 rfl K
theorem ml_0 {p : Nat} (hp : p < 94) (K : Int32 → Option T) : ab_iald (mH h m A I u v) (m + 1) (nI p) K = K (A 0 p) := iald_at mg_1 hp (by decide) K
theorem ma_s0 (f : Nat → Int32) : ab_set (mH h m A I u v) (m + 1) (.inl (0, 94, f)) = mH h m (ropU A 0 f) I u v := mH_set h m A (ropU A 0 f) I I u v u v (j := 1) (by decide) rfl (fun i hi => fin14 (P := fun i => i ≠ 1 → mCell m (ropU A 0 f) I u v i = mCell m A I u v i) (fun _ => rfl) (fun z => absurd rfl z) (fun _ => rfl) (fun _ => rfl) (fun _ => rfl) (fun _ => rfl) (fun _ => rfl) (fun _ => rfl) (fun _ => rfl) (fun _ => rfl) (fun _ => rfl) (fun _ => rfl) (fun _ => rfl) (fun _ => rfl) i hi)
theorem ma_0 {p : Nat} (hp : p < 94) (x : Int32) (K : ab_H → Option T) : ab_iast (mH h m A I u v) (m + 1) (nI p) x K = K (mH h m (ropU A 0 (upd (A 0) p x)) I u v) := by
  rw [iast_at mg_1 hp (by decide), ma_s0]
theorem mr_1 (K : Nat → Option T) : ab_gfr (mH h m A I u v) m 11 1 K = K (m + 2) := gfr_at mg_0 rfl K
theorem ml_1 {p : Nat} (hp : p < 188) (K : Int32 → Option T) : ab_iald (mH h m A I u v) (m + 2) (nI p) K = K (A 1 p) := iald_at mg_2 hp (by decide) K
theorem ma_s1 (f : Nat → Int32) : ab_set (mH h m A I u v) (m + 2) (.inl (0, 188, f)) = mH h m (ropU A 1 f) I u v := mH_set h m A (ropU A 1 f) I I u v u v (j := 2) (by decide) rfl (fun i hi => fin14 (P := fun i => i ≠ 2 → mCell m (ropU A 1 f) I u v i = mCell m A I u v i) (fun _ => rfl) (fun _ => rfl) (fun z => absurd rfl z) (fun _ => rfl) (fun _ => rfl) (fun _ => rfl) (fun _ => rfl) (fun _ => rfl) (fun _ => rfl) (fun _ => rfl) (fun _ => rfl) (fun _ => rfl) (fun _ => rfl) (fun _ => rfl) i hi)
theorem ma_1 {p : Nat} (hp : p < 188) (x : Int32) (K : ab_H → Option T) : ab_iast (mH h m A I u v) (m + 2) (nI p) x K = K (mH h m (ropU A 1 (upd (A 1) p x)) I u v) := by
  rw [iast_at mg_2 hp (by decide), ma_s1]
theorem mr_2 (K : Nat → Option T) : ab_gfr (mH h m A I u v) m 11 2 K = K (m + 3) := gfr_at mg_0 rfl K
theorem ma_s2 (f : Nat → Int32) : ab_set (mH h m A I u v) (m + 3) (.inl (2, 2, f)) = mH h m (ropU A 2 f) I u v := mH_set h m A (ropU A 2 f) I I u v u v (j := 3) (by decide) rfl (fun i hi => fin14 (P := fun i => i ≠ 3 → mCell m (ropU A 2 f) I u v i = mCell m A I u v i) (fun _ => rfl) (fun _ => rfl) (fun _ => rfl) (fun z => absurd rfl z) (fun _ => rfl) (fun _ => rfl) (fun _ => rfl) (fun _ => rfl) (fun _ => rfl) (fun _ => rfl) (fun _ => rfl) (fun _ => rfl) (fun _ => rfl) (fun _ => rfl) i hi)
theorem mr_3 (K : Nat → Option T) : ab_gfr (mH h m A I u v) m 11 3 K = K (m + 4) := gfr_at mg_0 rfl K
theorem ml_3 {p : Nat} (hp : p < 3) (K : Int32 → Option T) : ab_iald (mH h m A I u v) (m + 4) (nI p) K = K (A 3 p) := iald_at mg_4 hp (by decide) K
theorem ma_s3 (f : Nat → Int32) : ab_set (mH h m A I u v) (m + 4) (.inl (0, 3, f)) = mH h m (ropU A 3 f) I u v := mH_set h m A (ropU A 3 f) I I u v u v (j := 4) (by decide) rfl (fun i hi => fin14 (P := fun i => i ≠ 4 → mCell m (ropU A 3 f) I u v i = mCell m A I u v i) (fun _ => rfl) (fun _ => rfl) (fun _ => rfl) (fun _ => rfl) (fun z => absurd rfl z) (fun _ => rfl) (fun _ => rfl) (fun _ => rfl) (fun _ => rfl) (fun _ => rfl) (fun _ => rfl) (fun _ => rfl) (fun _ => rfl) (fun _ => rfl) i hi)
theorem ma_3 {p : Nat} (hp : p < 3) (x : Int32) (K : ab_H → Option T) : ab_iast (mH h m A I u v) (m + 4) (nI p) x K = K (mH h m (ropU A 3 (upd (A 3) p x)) I u v) := by
  rw [iast_at mg_4 hp (by decide), ma_s3]
theorem mr_6 (K : Nat → Option T) : ab_gfr (mH h m A I u v) m 11 6 K = K (m + 5) := gfr_at mg_0 rfl K
theorem ml_4 {p : Nat} (hp : p < 5) (K : Int32 → Option T) : ab_iald (mH h m A I u v) (m + 5) (nI p) K = K (A 4 p) := iald_at mg_5 hp (by decide) K
theorem ma_s4 (f : Nat → Int32) : ab_set (mH h m A I u v) (m + 5) (.inl (0, 5, f)) = mH h m (ropU A 4 f) I u v := mH_set h m A (ropU A 4 f) I I u v u v (j := 5) (by decide) rfl (fun i hi => fin14 (P := fun i => i ≠ 5 → mCell m (ropU A 4 f) I u v i = mCell m A I u v i) (fun _ => rfl) (fun _ => rfl) (fun _ => rfl) (fun _ => rfl) (fun _ => rfl) (fun z => absurd rfl z) (fun _ => rfl) (fun _ => rfl) (fun _ => rfl) (fun _ => rfl) (fun _ => rfl) (fun _ => rfl) (fun _ => rfl) (fun _ => rfl) i hi)
theorem ma_4 {p : Nat} (hp : p < 5) (x : Int32) (K : ab_H → Option T) : ab_iast (mH h m A I u v) (m + 5) (nI p) x K = K (mH h m (ropU A 4 (upd (A 4) p x)) I u v) := by
  rw [iast_at mg_5 hp (by decide), ma_s4]
theorem mr_8 (K : Nat → Option T) : ab_gfr (mH h m A I u v) m 11 8 K = K (m + 6) := gfr_at mg_0 rfl K
theorem ml_5 {p : Nat} (hp : p < 5) (K : Int32 → Option T) : ab_iald (mH h m A I u v) (m + 6) (nI p) K = K (A 5 p) := iald_at mg_6 hp (by decide) K
theorem ma_s5 (f : Nat → Int32) : ab_set (mH h m A I u v) (m + 6) (.inl (0, 5, f)) = mH h m (ropU A 5 f) I u v := mH_set h m A (ropU A 5 f) I I u v u v (j := 6) (by decide) rfl (fun i hi => fin14 (P := fun i => i ≠ 6 → mCell m (ropU A 5 f) I u v i = mCell m A I u v i) (fun _ => rfl) (fun _ => rfl) (fun _ => rfl) (fun _ => rfl) (fun _ => rfl) (fun _ => rfl) (fun z => absurd rfl z) (fun _ => rfl) (fun _ => rfl) (fun _ => rfl) (fun _ => rfl) (fun _ => rfl) (fun _ => rfl) (fun _ => rfl) i hi)
theorem ma_5 {p : Nat} (hp : p < 5) (x : Int32) (K : ab_H → Option T) : ab_iast (mH h m A I u v) (m + 6) (nI p) x K = K (mH h m (ropU A 5 (upd (A 5) p x)) I u v) := by
  rw [iast_at mg_6 hp (by decide), ma_s5]
theorem mr_9 (K : Nat → Option T) : ab_gfr (mH h m A I u v) m 11 9 K = K (m + 7) := gfr_at mg_0 rfl K
theorem ml_6 {p : Nat} (hp : p < 5) (K : Int32 → Option T) : ab_iald (mH h m A I u v) (m + 7) (nI p) K = K (A 6 p) := iald_at mg_7 hp (by decide) K
theorem ma_s6 (f : Nat → Int32) : ab_set (mH h m A I u v) (m + 7) (.inl (0, 5, f)) = mH h m (ropU A 6 f) I u v := mH_set h m A (ropU A 6 f) I I u v u v (j := 7) (by decide) rfl (fun i hi => fin14 (P := fun i => i ≠ 7 → mCell m (ropU A 6 f) I u v i = mCell m A I u v i) (fun _ => rfl) (fun _ => rfl) (fun _ => rfl) (fun _ => rfl) (fun _ => rfl) (fun _ => rfl) (fun _ => rfl) (fun z => absurd rfl z) (fun _ => rfl) (fun _ => rfl) (fun _ => rfl) (fun _ => rfl) (fun _ => rfl) (fun _ => rfl) i hi)
theorem ma_6 {p : Nat} (hp : p < 5) (x : Int32) (K : ab_H → Option T) : ab_iast (mH h m A I u v) (m + 7) (nI p) x K = K (mH h m (ropU A 6 (upd (A 6) p x)) I u v) := by
  rw [iast_at mg_7 hp (by decide), ma_s6]
theorem mr_12 (K : Nat → Option T) : ab_gfr (mH h m A I u v) m 11 12 K = K (m + 8) := gfr_at mg_0 rfl K
theorem ml_7 {p : Nat} (hp : p < 9) (K : Int32 → Option T) : ab_iald (mH h m A I u v) (m + 8) (nI p) K = K (A 7 p) := iald_at mg_8 hp (by decide) K
theorem ma_s7 (f : Nat → Int32) : ab_set (mH h m A I u v) (m + 8) (.inl (0, 9, f)) = mH h m (ropU A 7 f) I u v := mH_set h m A (ropU A 7 f) I I u v u v (j := 8) (by decide) rfl (fun i hi => fin14 (P := fun i => i ≠ 8 → mCell m (ropU A 7 f) I u v i = mCell m A I u v i) (fun _ => rfl) (fun _ => rfl) (fun _ => rfl) (fun _ => rfl) (fun _ => rfl) (fun _ => rfl) (fun _ => rfl) (fun _ => rfl) (fun z => absurd rfl z) (fun _ => rfl) (fun _ => rfl) (fun _ => rfl) (fun _ => rfl) (fun _ => rfl) i hi)
theorem ma_7 {p : Nat} (hp : p < 9) (x : Int32) (K : ab_H → Option T) : ab_iast (mH h m A I u v) (m + 8) (nI p) x K = K (mH h m (ropU A 7 (upd (A 7) p x)) I u v) := by
  rw [iast_at mg_8 hp (by decide), ma_s7]
theorem mr_13 (K : Nat → Option T) : ab_gfr (mH h m A I u v) m 11 13 K = K (m + 9) := gfr_at mg_0 rfl K
theorem ml_8 {p : Nat} (hp : p < 5) (K : Int32 → Option T) : ab_iald (mH h m A I u v) (m + 9) (nI p) K = K (A 8 p) := iald_at mg_9 hp (by decide) K
theorem ma_s8 (f : Nat → Int32) : ab_set (mH h m A I u v) (m + 9) (.inl (0, 5, f)) = mH h m (ropU A 8 f) I u v := mH_set h m A (ropU A 8 f) I I u v u v (j := 9) (by decide) rfl (fun i hi => fin14 (P := fun i => i ≠ 9 → mCell m (ropU A 8 f) I u v i = mCell m A I u v i) (fun _ => rfl) (fun _ => rfl) (fun _ => rfl) (fun _ => rfl) (fun _ => rfl) (fun _ => rfl) (fun _ => rfl) (fun _ => rfl) (fun _ => rfl) (fun z => absurd rfl z) (fun _ => rfl) (fun _ => rfl) (fun _ => rfl) (fun _ => rfl) i hi)
theorem ma_8 {p : Nat} (hp : p < 5) (x : Int32) (K : ab_H → Option T) : ab_iast (mH h m A I u v) (m + 9) (nI p) x K = K (mH h m (ropU A 8 (upd (A 8) p x)) I u v) := by
  rw [iast_at mg_9 hp (by decide), ma_s8]
theorem mr_14 (K : Nat → Option T) : ab_gfr (mH h m A I u v) m 11 14 K = K (m + 10) := gfr_at mg_0 rfl K
theorem ml_9 {p : Nat} (hp : p < 4) (K : Int32 → Option T) : ab_iald (mH h m A I u v) (m + 10) (nI p) K = K (A 9 p) := iald_at mg_10 hp (by decide) K
theorem ma_s9 (f : Nat → Int32) : ab_set (mH h m A I u v) (m + 10) (.inl (0, 4, f)) = mH h m (ropU A 9 f) I u v := mH_set h m A (ropU A 9 f) I I u v u v (j := 10) (by decide) rfl (fun i hi => fin14 (P := fun i => i ≠ 10 → mCell m (ropU A 9 f) I u v i = mCell m A I u v i) (fun _ => rfl) (fun _ => rfl) (fun _ => rfl) (fun _ => rfl) (fun _ => rfl) (fun _ => rfl) (fun _ => rfl) (fun _ => rfl) (fun _ => rfl) (fun _ => rfl) (fun z => absurd rfl z) (fun _ => rfl) (fun _ => rfl) (fun _ => rfl) i hi)
theorem ma_9 {p : Nat} (hp : p < 4) (x : Int32) (K : ab_H → Option T) : ab_iast (mH h m A I u v) (m + 10) (nI p) x K = K (mH h m (ropU A 9 (upd (A 9) p x)) I u v) := by
  rw [iast_at mg_10 hp (by decide), ma_s9]
theorem mr_15 (K : Nat → Option T) : ab_gfr (mH h m A I u v) m 11 15 K = K (m + 11) := gfr_at mg_0 rfl K
theorem ml_10 {p : Nat} (hp : p < 150) (K : Int32 → Option T) : ab_iald (mH h m A I u v) (m + 11) (nI p) K = K (A 10 p) := iald_at mg_11 hp (by decide) K
theorem ma_s10 (f : Nat → Int32) : ab_set (mH h m A I u v) (m + 11) (.inl (0, 150, f)) = mH h m (ropU A 10 f) I u v := mH_set h m A (ropU A 10 f) I I u v u v (j := 11) (by decide) rfl (fun i hi => fin14 (P := fun i => i ≠ 11 → mCell m (ropU A 10 f) I u v i = mCell m A I u v i) (fun _ => rfl) (fun _ => rfl) (fun _ => rfl) (fun _ => rfl) (fun _ => rfl) (fun _ => rfl) (fun _ => rfl) (fun _ => rfl) (fun _ => rfl) (fun _ => rfl) (fun _ => rfl) (fun z => absurd rfl z) (fun _ => rfl) (fun _ => rfl) i hi)
theorem ma_10 {p : Nat} (hp : p < 150) (x : Int32) (K : ab_H → Option T) : ab_iast (mH h m A I u v) (m + 11) (nI p) x K = K (mH h m (ropU A 10 (upd (A 10) p x)) I u v) := by
  rw [iast_at mg_11 hp (by decide), ma_s10]
theorem mr_21 (K : Nat → Option T) : ab_gfr (mH h m A I u v) m 11 21 K = K (m + 12) := gfr_at mg_0 rfl K
theorem ml_11 {p : Nat} (hp : p < 70) (K : Int32 → Option T) : ab_iald (mH h m A I u v) (m + 12) (nI p) K = K (A 11 p) := iald_at mg_12 hp (by decide) K
theorem ma_s11 (f : Nat → Int32) : ab_set (mH h m A I u v) (m + 12) (.inl (0, 70, f)) = mH h m (ropU A 11 f) I u v := mH_set h m A (ropU A 11 f) I I u v u v (j := 12) (by decide) rfl (fun i hi => fin14 (P := fun i => i ≠ 12 → mCell m (ropU A 11 f) I u v i = mCell m A I u v i) (fun _ => rfl) (fun _ => rfl) (fun _ => rfl) (fun _ => rfl) (fun _ => rfl) (fun _ => rfl) (fun _ => rfl) (fun _ => rfl) (fun _ => rfl) (fun _ => rfl) (fun _ => rfl) (fun _ => rfl) (fun z => absurd rfl z) (fun _ => rfl) i hi)
theorem ma_11 {p : Nat} (hp : p < 70) (x : Int32) (K : ab_H → Option T) : ab_iast (mH h m A I u v) (m + 12) (nI p) x K = K (mH h m (ropU A 11 (upd (A 11) p x)) I u v) := by
  rw [iast_at mg_12 hp (by decide), ma_s11]
theorem mr_22 (K : Nat → Option T) : ab_gfr (mH h m A I u v) m 11 22 K = K (m + 13) := gfr_at mg_0 rfl K
theorem ml_12 {p : Nat} (hp : p < 4) (K : Int32 → Option T) : ab_iald (mH h m A I u v) (m + 13) (nI p) K = K (A 12 p) := iald_at mg_13 hp (by decide) K
theorem ma_s12 (f : Nat → Int32) : ab_set (mH h m A I u v) (m + 13) (.inl (0, 4, f)) = mH h m (ropU A 12 f) I u v := mH_set h m A (ropU A 12 f) I I u v u v (j := 13) (by decide) rfl (fun i hi => fin14 (P := fun i => i ≠ 13 → mCell m (ropU A 12 f) I u v i = mCell m A I u v i) (fun _ => rfl) (fun _ => rfl) (fun _ => rfl) (fun _ => rfl) (fun _ => rfl) (fun _ => rfl) (fun _ => rfl) (fun _ => rfl) (fun _ => rfl) (fun _ => rfl) (fun _ => rfl) (fun _ => rfl) (fun _ => rfl) (fun z => absurd rfl z) i hi)
theorem ma_12 {p : Nat} (hp : p < 4) (x : Int32) (K : ab_H → Option T) : ab_iast (mH h m A I u v) (m + 13) (nI p) x K = K (mH h m (ropU A 12 (upd (A 12) p x)) I u v) := by
  rw [iast_at mg_13 hp (by decide), ma_s12]
theorem mi_7 (K : Int32 → Option T) : ab_gfi (mH h m A I u v) m 11 7 K = K (I 7) := gfi_at mg_0 rfl K
theorem mp_7 (x : Int32) (K : ab_H → Option T) : ab_pf (mH h m A I u v) m 11 7 (.int x) K = K (mH h m A (upd I 7 x) u v) := by
  rw [pf_at mg_0 (show 7 < 23 by decide)]
  exact congrArg K (mH_set h m A A I (upd I 7 x) u v u v (j := 0) (by decide) rfl (fun i hi => fin14 (P := fun i => i ≠ 0 → mCell m A (upd I 7 x) u v i = mCell m A I u v i) (fun z => absurd rfl z) (fun _ => rfl) (fun _ => rfl) (fun _ => rfl) (fun _ => rfl) (fun _ => rfl) (fun _ => rfl) (fun _ => rfl) (fun _ => rfl) (fun _ => rfl) (fun _ => rfl) (fun _ => rfl) (fun _ => rfl) (fun _ => rfl) i hi))
theorem mi_10 (K : Int32 → Option T) : ab_gfi (mH h m A I u v) m 11 10 K = K (I 10) := gfi_at mg_0 rfl K
theorem mp_10 (x : Int32) (K : ab_H → Option T) : ab_pf (mH h m A I u v) m 11 10 (.int x) K = K (mH h m A (upd I 10 x) u v) := by
  rw [pf_at mg_0 (show 10 < 23 by decide)]
  exact congrArg K (mH_set h m A A I (upd I 10 x) u v u v (j := 0) (by decide) rfl (fun i hi => fin14 (P := fun i => i ≠ 0 → mCell m A (upd I 10 x) u v i = mCell m A I u v i) (fun z => absurd rfl z) (fun _ => rfl) (fun _ => rfl) (fun _ => rfl) (fun _ => rfl) (fun _ => rfl) (fun _ => rfl) (fun _ => rfl) (fun _ => rfl) (fun _ => rfl) (fun _ => rfl) (fun _ => rfl) (fun _ => rfl) (fun _ => rfl) i hi))
theorem mi_11 (K : Int32 → Option T) : ab_gfi (mH h m A I u v) m 11 11 K = K (I 11) := gfi_at mg_0 rfl K
theorem mp_11 (x : Int32) (K : ab_H → Option T) : ab_pf (mH h m A I u v) m 11 11 (.int x) K = K (mH h m A (upd I 11 x) u v) := by
  rw [pf_at mg_0 (show 11 < 23 by decide)]
  exact congrArg K (mH_set h m A A I (upd I 11 x) u v u v (j := 0) (by decide) rfl (fun i hi => fin14 (P := fun i => i ≠ 0 → mCell m A (upd I 11 x) u v i = mCell m A I u v i) (fun z => absurd rfl z) (fun _ => rfl) (fun _ => rfl) (fun _ => rfl) (fun _ => rfl) (fun _ => rfl) (fun _ => rfl) (fun _ => rfl) (fun _ => rfl) (fun _ => rfl) (fun _ => rfl) (fun _ => rfl) (fun _ => rfl) (fun _ => rfl) i hi))
theorem mi_16 (K : Int32 → Option T) : ab_gfi (mH h m A I u v) m 11 16 K = K (I 16) := gfi_at mg_0 rfl K
theorem mp_16 (x : Int32) (K : ab_H → Option T) : ab_pf (mH h m A I u v) m 11 16 (.int x) K = K (mH h m A (upd I 16 x) u v) := by
  rw [pf_at mg_0 (show 16 < 23 by decide)]
  exact congrArg K (mH_set h m A A I (upd I 16 x) u v u v (j := 0) (by decide) rfl (fun i hi => fin14 (P := fun i => i ≠ 0 → mCell m A (upd I 16 x) u v i = mCell m A I u v i) (fun z => absurd rfl z) (fun _ => rfl) (fun _ => rfl) (fun _ => rfl) (fun _ => rfl) (fun _ => rfl) (fun _ => rfl) (fun _ => rfl) (fun _ => rfl) (fun _ => rfl) (fun _ => rfl) (fun _ => rfl) (fun _ => rfl) (fun _ => rfl) i hi))
theorem mi_17 (K : Int32 → Option T) : ab_gfi (mH h m A I u v) m 11 17 K = K (I 17) := gfi_at mg_0 rfl K
theorem mp_17 (x : Int32) (K : ab_H → Option T) : ab_pf (mH h m A I u v) m 11 17 (.int x) K = K (mH h m A (upd I 17 x) u v) := by
  rw [pf_at mg_0 (show 17 < 23 by decide)]
  exact congrArg K (mH_set h m A A I (upd I 17 x) u v u v (j := 0) (by decide) rfl (fun i hi => fin14 (P := fun i => i ≠ 0 → mCell m A (upd I 17 x) u v i = mCell m A I u v i) (fun z => absurd rfl z) (fun _ => rfl) (fun _ => rfl) (fun _ => rfl) (fun _ => rfl) (fun _ => rfl) (fun _ => rfl) (fun _ => rfl) (fun _ => rfl) (fun _ => rfl) (fun _ => rfl) (fun _ => rfl) (fun _ => rfl) (fun _ => rfl) i hi))
theorem mi_18 (K : Int32 → Option T) : ab_gfi (mH h m A I u v) m 11 18 K = K (I 18) := gfi_at mg_0 rfl K
theorem mp_18 (x : Int32) (K : ab_H → Option T) : ab_pf (mH h m A I u v) m 11 18 (.int x) K = K (mH h m A (upd I 18 x) u v) := by
  rw [pf_at mg_0 (show 18 < 23 by decide)]
  exact congrArg K (mH_set h m A A I (upd I 18 x) u v u v (j := 0) (by decide) rfl (fun i hi => fin14 (P := fun i => i ≠ 0 → mCell m A (upd I 18 x) u v i = mCell m A I u v i) (fun z => absurd rfl z) (fun _ => rfl) (fun _ => rfl) (fun _ => rfl) (fun _ => rfl) (fun _ => rfl) (fun _ => rfl) (fun _ => rfl) (fun _ => rfl) (fun _ => rfl) (fun _ => rfl) (fun _ => rfl) (fun _ => rfl) (fun _ => rfl) i hi))
theorem mi_19 (K : Int32 → Option T) : ab_gfi (mH h m A I u v) m 11 19 K = K (I 19) := gfi_at mg_0 rfl K
theorem mp_19 (x : Int32) (K : ab_H → Option T) : ab_pf (mH h m A I u v) m 11 19 (.int x) K = K (mH h m A (upd I 19 x) u v) := by
  rw [pf_at mg_0 (show 19 < 23 by decide)]
  exact congrArg K (mH_set h m A A I (upd I 19 x) u v u v (j := 0) (by decide) rfl (fun i hi => fin14 (P := fun i => i ≠ 0 → mCell m A (upd I 19 x) u v i = mCell m A I u v i) (fun z => absurd rfl z) (fun _ => rfl) (fun _ => rfl) (fun _ => rfl) (fun _ => rfl) (fun _ => rfl) (fun _ => rfl) (fun _ => rfl) (fun _ => rfl) (fun _ => rfl) (fun _ => rfl) (fun _ => rfl) (fun _ => rfl) (fun _ => rfl) i hi))
theorem mi_20 (K : Int32 → Option T) : ab_gfi (mH h m A I u v) m 11 20 K = K (I 20) := gfi_at mg_0 rfl K
theorem mp_20 (x : Int32) (K : ab_H → Option T) : ab_pf (mH h m A I u v) m 11 20 (.int x) K = K (mH h m A (upd I 20 x) u v) := by
  rw [pf_at mg_0 (show 20 < 23 by decide)]
  exact congrArg K (mH_set h m A A I (upd I 20 x) u v u v (j := 0) (by decide) rfl (fun i hi => fin14 (P := fun i => i ≠ 0 → mCell m A (upd I 20 x) u v i = mCell m A I u v i) (fun z => absurd rfl z) (fun _ => rfl) (fun _ => rfl) (fun _ => rfl) (fun _ => rfl) (fun _ => rfl) (fun _ => rfl) (fun _ => rfl) (fun _ => rfl) (fun _ => rfl) (fun _ => rfl) (fun _ => rfl) (fun _ => rfl) (fun _ => rfl) i hi))
theorem mi_4 (K : Int64 → Option T) : ab_gfl (mH h m A I u v) m 11 4 K = K u := gfl_at mg_0 rfl K
theorem mp_4 (x : Int64) (K : ab_H → Option T) : ab_pf (mH h m A I u v) m 11 4 (.long x) K = K (mH h m A I x v) := by
  rw [pf_at mg_0 (show 4 < 23 by decide)]
  exact congrArg K (mH_set h m A A I I u v x v (j := 0) (by decide) rfl (fun i hi => fin14 (P := fun i => i ≠ 0 → mCell m A I x v i = mCell m A I u v i) (fun z => absurd rfl z) (fun _ => rfl) (fun _ => rfl) (fun _ => rfl) (fun _ => rfl) (fun _ => rfl) (fun _ => rfl) (fun _ => rfl) (fun _ => rfl) (fun _ => rfl) (fun _ => rfl) (fun _ => rfl) (fun _ => rfl) (fun _ => rfl) i hi))
theorem mi_5 (K : Int64 → Option T) : ab_gfl (mH h m A I u v) m 11 5 K = K v := gfl_at mg_0 rfl K
theorem mp_5 (x : Int64) (K : ab_H → Option T) : ab_pf (mH h m A I u v) m 11 5 (.long x) K = K (mH h m A I u x) := by
  rw [pf_at mg_0 (show 5 < 23 by decide)]
  exact congrArg K (mH_set h m A A I I u v u x (j := 0) (by decide) rfl (fun i hi => fin14 (P := fun i => i ≠ 0 → mCell m A I u x i = mCell m A I u v i) (fun z => absurd rfl z) (fun _ => rfl) (fun _ => rfl) (fun _ => rfl) (fun _ => rfl) (fun _ => rfl) (fun _ => rfl) (fun _ => rfl) (fun _ => rfl) (fun _ => rfl) (fun _ => rfl) (fun _ => rfl) (fun _ => rfl) (fun _ => rfl) i hi))
theorem ml_0_0 (K : Int32 → Option T) : ab_iald (mH h m A I u v) (m + 1) (0 : Int32) K = K (A 0 0) := ml_0 (p := 0) (by decide) K
theorem ma_0_0 (x : Int32) (K : ab_H → Option T) : ab_iast (mH h m A I u v) (m + 1) (0 : Int32) x K = K (mH h m (ropU A 0 (upd (A 0) 0 x)) I u v) := ma_0 (p := 0) (by decide) x K
theorem ml_0_1 (K : Int32 → Option T) : ab_iald (mH h m A I u v) (m + 1) (1 : Int32) K = K (A 0 1) := ml_0 (p := 1) (by decide) K
theorem ma_0_1 (x : Int32) (K : ab_H → Option T) : ab_iast (mH h m A I u v) (m + 1) (1 : Int32) x K = K (mH h m (ropU A 0 (upd (A 0) 1 x)) I u v) := ma_0 (p := 1) (by decide) x K
theorem ml_0_2 (K : Int32 → Option T) : ab_iald (mH h m A I u v) (m + 1) (2 : Int32) K = K (A 0 2) := ml_0 (p := 2) (by decide) K
theorem ma_0_2 (x : Int32) (K : ab_H → Option T) : ab_iast (mH h m A I u v) (m + 1) (2 : Int32) x K = K (mH h m (ropU A 0 (upd (A 0) 2 x)) I u v) := ma_0 (p := 2) (by decide) x K
theorem ml_0_3 (K : Int32 → Option T) : ab_iald (mH h m A I u v) (m + 1) (3 : Int32) K = K (A 0 3) := ml_0 (p := 3) (by decide) K
theorem ma_0_3 (x : Int32) (K : ab_H → Option T) : ab_iast (mH h m A I u v) (m + 1) (3 : Int32) x K = K (mH h m (ropU A 0 (upd (A 0) 3 x)) I u v) := ma_0 (p := 3) (by decide) x K
theorem ml_0_4 (K : Int32 → Option T) : ab_iald (mH h m A I u v) (m + 1) (4 : Int32) K = K (A 0 4) := ml_0 (p := 4) (by decide) K
theorem ma_0_4 (x : Int32) (K : ab_H → Option T) : ab_iast (mH h m A I u v) (m + 1) (4 : Int32) x K = K (mH h m (ropU A 0 (upd (A 0) 4 x)) I u v) := ma_0 (p := 4) (by decide) x K
theorem ml_0_5 (K : Int32 → Option T) : ab_iald (mH h m A I u v) (m + 1) (5 : Int32) K = K (A 0 5) := ml_0 (p := 5) (by decide) K
theorem ma_0_5 (x : Int32) (K : ab_H → Option T) : ab_iast (mH h m A I u v) (m + 1) (5 : Int32) x K = K (mH h m (ropU A 0 (upd (A 0) 5 x)) I u v) := ma_0 (p := 5) (by decide) x K
theorem ml_3_0 (K : Int32 → Option T) : ab_iald (mH h m A I u v) (m + 4) (0 : Int32) K = K (A 3 0) := ml_3 (p := 0) (by decide) K
theorem ma_3_0 (x : Int32) (K : ab_H → Option T) : ab_iast (mH h m A I u v) (m + 4) (0 : Int32) x K = K (mH h m (ropU A 3 (upd (A 3) 0 x)) I u v) := ma_3 (p := 0) (by decide) x K
theorem ml_3_1 (K : Int32 → Option T) : ab_iald (mH h m A I u v) (m + 4) (1 : Int32) K = K (A 3 1) := ml_3 (p := 1) (by decide) K
theorem ma_3_1 (x : Int32) (K : ab_H → Option T) : ab_iast (mH h m A I u v) (m + 4) (1 : Int32) x K = K (mH h m (ropU A 3 (upd (A 3) 1 x)) I u v) := ma_3 (p := 1) (by decide) x K
theorem ml_3_2 (K : Int32 → Option T) : ab_iald (mH h m A I u v) (m + 4) (2 : Int32) K = K (A 3 2) := ml_3 (p := 2) (by decide) K
theorem ma_3_2 (x : Int32) (K : ab_H → Option T) : ab_iast (mH h m A I u v) (m + 4) (2 : Int32) x K = K (mH h m (ropU A 3 (upd (A 3) 2 x)) I u v) := ma_3 (p := 2) (by decide) x K
theorem ml_11_0 (K : Int32 → Option T) : ab_iald (mH h m A I u v) (m + 12) (0 : Int32) K = K (A 11 0) := ml_11 (p := 0) (by decide) K
theorem ma_11_0 (x : Int32) (K : ab_H → Option T) : ab_iast (mH h m A I u v) (m + 12) (0 : Int32) x K = K (mH h m (ropU A 11 (upd (A 11) 0 x)) I u v) := ma_11 (p := 0) (by decide) x K
theorem ml_12_0 (K : Int32 → Option T) : ab_iald (mH h m A I u v) (m + 13) (0 : Int32) K = K (A 12 0) := ml_12 (p := 0) (by decide) K
theorem ma_12_0 (x : Int32) (K : ab_H → Option T) : ab_iast (mH h m A I u v) (m + 13) (0 : Int32) x K = K (mH h m (ropU A 12 (upd (A 12) 0 x)) I u v) := ma_12 (p := 0) (by decide) x K
theorem ml_12_1 (K : Int32 → Option T) : ab_iald (mH h m A I u v) (m + 13) (1 : Int32) K = K (A 12 1) := ml_12 (p := 1) (by decide) K
theorem ma_12_1 (x : Int32) (K : ab_H → Option T) : ab_iast (mH h m A I u v) (m + 13) (1 : Int32) x K = K (mH h m (ropU A 12 (upd (A 12) 1 x)) I u v) := ma_12 (p := 1) (by decide) x K
theorem ml_12_2 (K : Int32 → Option T) : ab_iald (mH h m A I u v) (m + 13) (2 : Int32) K = K (A 12 2) := ml_12 (p := 2) (by decide) K
theorem ma_12_2 (x : Int32) (K : ab_H → Option T) : ab_iast (mH h m A I u v) (m + 13) (2 : Int32) x K = K (mH h m (ropU A 12 (upd (A 12) 2 x)) I u v) := ma_12 (p := 2) (by decide) x K
theorem ml_12_3 (K : Int32 → Option T) : ab_iald (mH h m A I u v) (m + 13) (3 : Int32) K = K (A 12 3) := ml_12 (p := 3) (by decide) K
theorem ma_12_3 (x : Int32) (K : ab_H → Option T) : ab_iast (mH h m A I u v) (m + 13) (3 : Int32) x K = K (mH h m (ropU A 12 (upd (A 12) 3 x)) I u v) := ma_12 (p := 3) (by decide) x K
theorem ml_b {p : Nat} (hp : p < 2) (K : Int32 → Option T) : ab_bald (mH h m A I u v) (m + 3) (nI p) K = K (A 2 p) := by
  unfold ab_bald
  rw [mg_3]
  simp only
  rw [nI_clamp (by omega), if_pos ⟨Or.inr (Or.inl trivial), nI_pos' (by omega), hp⟩]
theorem ma_b {p : Nat} (hp : p < 2) (K : ab_H → Option T) : ab_bast (mH h m A I u v) (m + 3) (nI p) (1 : Int32) K = K (mH h m (ropU A 2 (upd (A 2) p 1)) I u v) := by
  unfold ab_bast
  rw [mg_3]
  simp only
  rw [nI_clamp (by omega), if_pos ⟨Or.inr trivial, nI_pos' (by omega), hp⟩, if_neg (by decide), show vp_nar .boolean (1 : Int32) = 1 by decide +kernel, ma_s2]
end
