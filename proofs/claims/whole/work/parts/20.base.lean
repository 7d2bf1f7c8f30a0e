/-! reading the equations: cells, flags; the rope's weights -/
theorem get_same (h : ab_H) (a : Nat) (c : ab_Ce) : ab_get (ab_set h a c) a = some c := by simp [ab_get, ab_set]
theorem get_ne (h : ab_H) {a b : Nat} (c : ab_Ce) (n : b ≠ a) : ab_get (ab_set h a c) b = ab_get h b := by simp [ab_get, ab_set, n]
theorem set_fst (h : ab_H) (a : Nat) (c : ab_Ce) : (ab_set h a c).1 = h.1 := rfl
theorem chk_b0 {R : Type} (K : Option R) : ab_chk 1 0 K = K := by
  unfold ab_chk; rw [if_neg (by decide), if_pos (by decide +kernel)]
theorem chk_b1 {R : Type} (K : Option R) : ab_chk 1 1 K = K := by
  unfold ab_chk; rw [if_neg (by decide), if_pos (by decide +kernel)]
theorem cI_some {R : Type} (x : Int32) (h : ab_H) (K : Int32 → ab_H → Option R) : ab_cI (some (some (.int x), h)) K = K x h := rfl
theorem cL_some {R : Type} (x : Int64) (h : ab_H) (K : Int64 → ab_H → Option R) : ab_cL (some (some (.long x), h)) K = K x h := rfl
theorem cV_some {R : Type} (h : ab_H) (K : ab_H → Option R) : ab_cV (some (none, h)) K = K h := rfl
theorem nI_n0 (n : Nat) (h : n < 2 ^ 31) : (0 : Int32) ≤ nI n := nI_pos' h
/-- a rope: its size, and who, kind, weight, stone, wishes, sags, rests by place -/
def RopeAt (h : ab_H) (r n : Nat) (R : Nat → Nat → Int32) : Prop :=
  ab_get h r = some (.inr (2, [.int (nI n), .ref (r + 1), .ref (r + 2), .ref (r + 3), .ref (r + 4), .ref (r + 5), .ref (r + 6), .ref (r + 7)])) ∧
  ab_get h (r + 1) = some (.inl (0, 5, R 0)) ∧ ab_get h (r + 2) = some (.inl (0, 5, R 1)) ∧ ab_get h (r + 3) = some (.inl (0, 5, R 2)) ∧ ab_get h (r + 4) = some (.inl (0, 5, R 3)) ∧ ab_get h (r + 5) = some (.inl (0, 5, R 4)) ∧ ab_get h (r + 6) = some (.inl (0, 5, R 5)) ∧ ab_get h (r + 7) = some (.inl (0, 5, R 6))
/-- a wall: ice, hard, left, right -/
def WallAt (h : ab_H) (w : Nat) (W : Nat → Nat → Int32) : Prop :=
  ab_get h w = some (.inr (8, [.ref (w + 1), .ref (w + 2), .ref (w + 3), .ref (w + 4)])) ∧
  ab_get h (w + 1) = some (.inl (0, 8, W 0)) ∧ ab_get h (w + 2) = some (.inl (0, 8, W 1)) ∧ ab_get h (w + 3) = some (.inl (0, 8, W 2)) ∧ ab_get h (w + 4) = some (.inl (0, 8, W 3))
/-- how much hangs -/
def hangV (kind wt stn sg rs place hard : Int32) : Int32 :=
  if kind = 1 then (if rs = 1 then 0 else wt + stn) / 2
  else if kind = 2 then (if sg = 1 then (if rs = 1 then 0 else wt + stn) + 5 else (if rs = 1 then 0 else wt + stn))
  else if kind = 3 then (if rs = 1 then 0 else (if rs = 1 then 0 else wt + stn) + hard)
  else if kind = 4 then (if (if rs = 1 then 0 else wt + stn) / 2 ≤ 0 then 0 else (if rs = 1 then 0 else wt + stn) / 2 + 2 * place)
  else if kind = 5 then (if sg = 1 then (if sg = 1 then (if rs = 1 then 0 else wt + stn) + 5 else (if rs = 1 then 0 else wt + stn)) else 0)
  else (if rs = 1 then 0 else wt + stn)
theorem iald_at {R : Type} {h : ab_H} {a n : Nat} {f : Nat → Int32} (e : ab_get h a = some (.inl (0, n, f))) {p : Nat} (hp : p < n) (hn : n < 2 ^ 31) (K : Int32 → Option R) : ab_iald h a (nI p) K = K (f p) := by
  unfold ab_iald
  rw [e]
  simp only
  rw [nI_clamp (by omega), if_pos ⟨Or.inl trivial, nI_pos' (by omega), hp⟩]
theorem iast_at {R : Type} {h : ab_H} {a n : Nat} {f : Nat → Int32} (e : ab_get h a = some (.inl (0, n, f))) {p : Nat} (hp : p < n) (hn : n < 2 ^ 31) (x : Int32) (K : ab_H → Option R) : ab_iast h a (nI p) x K = K (ab_set h a (.inl (0, n, upd f p x))) := by
  unfold ab_iast
  rw [e]
  simp only
  rw [nI_clamp (by omega), if_pos ⟨trivial, nI_pos' (by omega), hp⟩]
theorem gfi_at {R : Type} {h : ab_H} {a c k : Nat} {fs : List Value} {x : Int32} (e : ab_get h a = some (.inr (c, fs))) (hk : fs[k]? = some (.int x)) (K : Int32 → Option R) : ab_gfi h a c k K = K x := by
  unfold ab_gfi
  rw [e]
  simp only
  rw [if_pos trivial, hk]
theorem gfr_at {R : Type} {h : ab_H} {a c k : Nat} {fs : List Value} {x : Nat} (e : ab_get h a = some (.inr (c, fs))) (hk : fs[k]? = some (.ref x)) (K : Nat → Option R) : ab_gfr h a c k K = K x := by
  unfold ab_gfr
  rw [e]
  simp only
  rw [if_pos trivial, hk]
theorem gfl_at {R : Type} {h : ab_H} {a c k : Nat} {fs : List Value} {x : Int64} (e : ab_get h a = some (.inr (c, fs))) (hk : fs[k]? = some (.long x)) (K : Int64 → Option R) : ab_gfl h a c k K = K x := by
  unfold ab_gfl
  rw [e]
  simp only
  rw [if_pos trivial, hk]
theorem ckc_at {R : Type} {h : ab_H} {a c : Nat} {fs : List Value} (e : ab_get h a = some (.inr (c, fs))) (K : Option R) : ab_ckc h a c K = K := by
  unfold ab_ckc
  rw [e]
  simp only
  rw [if_pos trivial]
theorem pf_at {R : Type} {h : ab_H} {a c k : Nat} {fs : List Value} (e : ab_get h a = some (.inr (c, fs))) (hk : k < fs.length) (v : Value) (K : ab_H → Option R) : ab_pf h a c k v K = K (ab_set h a (.inr (c, fs.set k v))) := by
  unfold ab_pf
  rw [e]
  simp only
  rw [if_pos ⟨trivial, hk⟩]
section
variable {T : Type} {h : ab_H} {r w n : Nat} {R W : Nat → Nat → Int32}
theorem rp_n (hr : RopeAt h r n R) (K : Int32 → Option T) : ab_gfi h r 2 0 K = K (nI n) := gfi_at hr.1 rfl K
theorem rp_c (hr : RopeAt h r n R) (K : Option T) : ab_ckc h r 2 K = K := ckc_at hr.1 K
theorem rp_r0 (hr : RopeAt h r n R) (K : Nat → Option T) : ab_gfr h r 2 1 K = K (r + 1) := gfr_at hr.1 rfl K
theorem rp_l0 (hr : RopeAt h r n R) {p : Nat} (hp : p < 5) (K : Int32 → Option T) : ab_iald h (r + 1) (nI p) K = K (R 0 p) := iald_at hr.2.1 hp (by decide) K
theorem rp_r1 (hr : RopeAt h r n R) (K : Nat → Option T) : ab_gfr h r 2 2 K = K (r + 2) := gfr_at hr.1 rfl K
theorem rp_l1 (hr : RopeAt h r n R) {p : Nat} (hp : p < 5) (K : Int32 → Option T) : ab_iald h (r + 2) (nI p) K = K (R 1 p) := iald_at hr.2.2.1 hp (by decide) K
theorem rp_r2 (hr : RopeAt h r n R) (K : Nat → Option T) : ab_gfr h r 2 3 K = K (r + 3) := gfr_at hr.1 rfl K
theorem rp_l2 (hr : RopeAt h r n R) {p : Nat} (hp : p < 5) (K : Int32 → Option T) : ab_iald h (r + 3) (nI p) K = K (R 2 p) := iald_at hr.2.2.2.1 hp (by decide) K
theorem rp_r3 (hr : RopeAt h r n R) (K : Nat → Option T) : ab_gfr h r 2 4 K = K (r + 4) := gfr_at hr.1 rfl K
theorem rp_l3 (hr : RopeAt h r n R) {p : Nat} (hp : p < 5) (K : Int32 → Option T) : ab_iald h (r + 4) (nI p) K = K (R 3 p) := iald_at hr.2.2.2.2.1 hp (by decide) K
theorem rp_r4 (hr : RopeAt h r n R) (K : Nat → Option T) : ab_gfr h r 2 5 K = K (r + 5) := gfr_at hr.1 rfl K
theorem rp_l4 (hr : RopeAt h r n R) {p : Nat} (hp : p < 5) (K : Int32 → Option T) : ab_iald h (r + 5) (nI p) K = K (R 4 p) := iald_at hr.2.2.2.2.2.1 hp (by decide) K
theorem rp_r5 (hr : RopeAt h r n R) (K : Nat → Option T) : ab_gfr h r 2 6 K = K (r + 6) := gfr_at hr.1 rfl K
theorem rp_l5 (hr : RopeAt h r n R) {p : Nat} (hp : p < 5) (K : Int32 → Option T) : ab_iald h (r + 6) (nI p) K = K (R 5 p) := iald_at hr.2.2.2.2.2.2.1 hp (by decide) K
theorem rp_r6 (hr : RopeAt h r n R) (K : Nat → Option T) : ab_gfr h r 2 7 K = K (r + 7) := gfr_at hr.1 rfl K
theorem rp_l6 (hr : RopeAt h r n R) {p : Nat} (hp : p < 5) (K : Int32 → Option T) : ab_iald h (r + 7) (nI p) K = K (R 6 p) := iald_at hr.2.2.2.2.2.2.2 hp (by decide) K
theorem wl_r0 (hw : WallAt h w W) (K : Nat → Option T) : ab_gfr h w 8 0 K = K (w + 1) := gfr_at hw.1 rfl K
theorem wl_l0 (hw : WallAt h w W) {p : Nat} (hp : p < 8) (K : Int32 → Option T) : ab_iald h (w + 1) (nI p) K = K (W 0 p) := iald_at hw.2.1 hp (by decide) K
theorem wl_r1 (hw : WallAt h w W) (K : Nat → Option T) : ab_gfr h w 8 1 K = K (w + 2) := gfr_at hw.1 rfl K
theorem wl_l1 (hw : WallAt h w W) {p : Nat} (hp : p < 8) (K : Int32 → Option T) : ab_iald h (w + 2) (nI p) K = K (W 1 p) := iald_at hw.2.2.1 hp (by decide) K
theorem wl_r2 (hw : WallAt h w W) (K : Nat → Option T) : ab_gfr h w 8 2 K = K (w + 3) := gfr_at hw.1 rfl K
theorem wl_l2 (hw : WallAt h w W) {p : Nat} (hp : p < 8) (K : Int32 → Option T) : ab_iald h (w + 3) (nI p) K = K (W 2 p) := iald_at hw.2.2.2.1 hp (by decide) K
theorem wl_r3 (hw : WallAt h w W) (K : Nat → Option T) : ab_gfr h w 8 3 K = K (w + 4) := gfr_at hw.1 rfl K
theorem wl_l3 (hw : WallAt h w W) {p : Nat} (hp : p < 8) (K : Int32 → Option T) : ab_iald h (w + 4) (nI p) K = K (W 3 p) := iald_at hw.2.2.2.2 hp (by decide) K
theorem wl_c (hw : WallAt h w W) (K : Option T) : ab_ckc h w 8 K = K := ckc_at hw.1 K
end
theorem s_hang {h : ab_H} {r n : Nat} {R : Nat → Nat → Int32} (hr : RopeAt h r n R) {p : Nat} (hp : p < 5) (hard : Int32) : fn_Rope_hang r (nI p) hard h = some (some (.int (hangV (R 1 p) (R 2 p) (R 3 p) (R 5 p) (R 6 p) (nI p) hard)), h) := by
  rw [q_Rope_hang]
  simp only [rp_r6 hr, rp_l6 hr hp, rp_r2 hr, rp_l2 hr hp, rp_r3 hr, rp_l3 hr hp, q_Rope_hang_27, q_Rope_hang_50, rp_r5 hr, rp_l5 hr hp, rp_r1 hr, rp_l1 hr hp]
  rw [if_neg (show ¬ (2 : Int32) = 0 by decide), if_neg (show ¬ (2 : Int32) = 0 by decide)]
  have e2 : (1 : Int32) + 1 = 2 := by decide
  have e3 : (2 : Int32) + 1 = 3 := by decide
  have e4 : (3 : Int32) + 1 = 4 := by decide
  have e5 : (4 : Int32) + 1 = 5 := by decide
  simp only [e2, e3, e4, e5]
  unfold hangV
  by_cases h6 : R 6 p = 1 <;> by_cases h5 : R 5 p = 1 <;> simp only [h5, h6, if_true, if_false]
  all_goals (repeat' split) <;> first | rfl | (exfalso; simp_all; done) | (simp_all; done)
