/-! ropes and walls by what they say: rows as far as places go -/
def REq (n : Nat) (R Q : Nat → Nat → Int32) : Prop := ∀ j, j < 7 → ∀ i, i < n → R j i = Q j i
def RopeIs (h : ab_H) (r n : Nat) (Q : Nat → Nat → Int32) : Prop := ∃ R, RopeAt h r n R ∧ REq n R Q
def WEq (W V : Nat → Nat → Int32) : Prop := ∀ j, j < 4 → ∀ p, p < 8 → W j p = V j p
def WallIs (h : ab_H) (w : Nat) (V : Nat → Nat → Int32) : Prop := ∃ W, WallAt h w W ∧ WEq W V
theorem RopeIs.frm {h h' : ab_H} {r n a m : Nat} {Q : Nat → Nat → Int32} (hr : RopeIs h r n Q) (f : Frm h h' a m) (hd : r + 8 ≤ a ∨ a + m ≤ r) : RopeIs h' r n Q := by
  obtain ⟨R, h1, h2⟩ := hr
  exact ⟨R, h1.frm f hd, h2⟩
theorem WallIs.frm {h h' : ab_H} {w a m : Nat} {V : Nat → Nat → Int32} (hw : WallIs h w V) (f : Frm h h' a m) (hd : w + 5 ≤ a ∨ a + m ≤ w) : WallIs h' w V := by
  obtain ⟨W, h1, h2⟩ := hw
  exact ⟨W, h1.frm f hd, h2⟩
theorem RopeIs.to {h : ab_H} {r n : Nat} {Q Q' : Nat → Nat → Int32} (hr : RopeIs h r n Q) (e : REq n Q Q') : RopeIs h r n Q' := by
  obtain ⟨R, h1, h2⟩ := hr
  exact ⟨R, h1, fun j hj i hi => (h2 j hj i hi).trans (e j hj i hi)⟩
theorem plL_cong {ice : Int32} {H G : Nat → Int32} {n : Nat} (e : ∀ i, i < n → H i = G i) : ∀ (k i : Nat) (best most : Int32), i + k = n → plL ice H k i best most = plL ice G k i best most
  | 0, _, _, _, _ => rfl
  | k + 1, i, best, most, hi => by
    unfold plL
    rw [e i (by omega), plL_cong e k (i + 1) best most (by omega), plL_cong e k (i + 1) (nI i) (G i) (by omega)]
theorem plV_cong {ice : Int32} {H G : Nat → Int32} {n : Nat} (e : ∀ i, i < n → H i = G i) : plV n ice H = plV n ice G := plL_cong e n 0 (-1) 0 (by omega)
/-- who says at a pitch; where they go from it -/
def sayR (n : Nat) (R W : Nat → Nat → Int32) (p : Nat) : Int32 := saV n (W 0 p) (hgR R W p) (R 0)
def nxtR (n : Nat) (R W : Nat → Nat → Int32) (p : Nat) : Int32 := nxV n (W 0 p) (hgR R W p) (R 4) p (W 2 p) (W 3 p)
theorem hgR_cong {n : Nat} {R Q W V : Nat → Nat → Int32} (e : REq n R Q) (ew : WEq W V) {p : Nat} (hp : p < 8) : ∀ i, i < n → hgR R W p i = hgR Q V p i := fun i hi => by
  unfold hgR
  rw [e 1 (by decide) i hi, e 2 (by decide) i hi, e 3 (by decide) i hi, e 5 (by decide) i hi, e 6 (by decide) i hi, ew 1 (by decide) p hp]
theorem sayR_cong {n : Nat} (hn : n ≤ 5) {R Q W V : Nat → Nat → Int32} (e : REq n R Q) (ew : WEq W V) {p : Nat} (hp : p < 8) : sayR n R W p = sayR n Q V p := by
  unfold sayR saV
  rw [plV_cong (hgR_cong e ew hp), ew 0 (by decide) p hp]
  rcases plV_in n (V 0 p) (hgR Q V p) with h | ⟨j, hj, h⟩
  · rw [if_pos h, if_pos h]
  · rw [h, if_neg (nI_ne_m1 (by omega)), if_neg (nI_ne_m1 (by omega)), nI_clamp (by omega), e 0 (by decide) j hj]
theorem nxtR_cong {n : Nat} (hn : n ≤ 5) {R Q W V : Nat → Nat → Int32} (e : REq n R Q) (ew : WEq W V) {p : Nat} (hp : p < 8) : nxtR n R W p = nxtR n Q V p := by
  unfold nxtR nxV
  rw [plV_cong (hgR_cong e ew hp), ew 0 (by decide) p hp, ew 2 (by decide) p hp, ew 3 (by decide) p hp]
  rcases plV_in n (V 0 p) (hgR Q V p) with h | ⟨j, hj, h⟩
  · rw [if_pos h, if_pos h]
  · rw [h, if_neg (nI_ne_m1 (by omega)), if_neg (nI_ne_m1 (by omega)), nI_clamp (by omega), e 4 (by decide) j hj]
theorem t_sayer {h : ab_H} {r w n : Nat} {Q V : Nat → Nat → Int32} (hr : RopeIs h r n Q) (hw : WallIs h w V) (hn : n ≤ 5) {p : Nat} (hp : p < 8) : fn_Rope_sayer r w (nI p) h = some (some (.int (sayR n Q V p)), h) := by
  obtain ⟨R, h1, h2⟩ := hr
  obtain ⟨W, w1, w2⟩ := hw
  rw [s_sayer h1 w1 hn hp, ← sayR_cong hn h2 w2 hp]
  rfl
theorem t_next {h : ab_H} {r w n : Nat} {Q V : Nat → Nat → Int32} (hr : RopeIs h r n Q) (hw : WallIs h w V) (hn : n ≤ 5) {p : Nat} (hp : p < 8) : fn_Rope_next r w (nI p) h = some (some (.int (nxtR n Q V p)), h) := by
  obtain ⟨R, h1, h2⟩ := hr
  obtain ⟨W, w1, w2⟩ := hw
  rw [s_next h1 w1 hn hp, ← nxtR_cong hn h2 w2 hp]
  rfl
theorem t_setSags {h : ab_H} {r n : Nat} {Q : Nat → Nat → Int32} (hr : RopeIs h r n Q) (hn : n ≤ 5) {m : Nat} (hm : m < 256) : ∃ h', fn_Rope_setSags r (nI m) h = some (none, h') ∧ RopeIs h' r n (ropU Q 5 (bt1 m)) ∧ Frm h h' r 8 := by
  obtain ⟨R, h1, h2⟩ := hr
  refine ⟨_, s_setSags h1 hn hm, ⟨_, rope_set5 h1 _, fun j hj i hi => ?_⟩, (Frm.set _ _ _).wide (by omega) (by omega)⟩
  unfold ropU
  split
  · simp [btU, hi]
  · exact h2 j hj i hi
theorem t_setRests {h : ab_H} {r n : Nat} {Q : Nat → Nat → Int32} (hr : RopeIs h r n Q) (hn : n ≤ 5) {m : Nat} (hm : m < 256) : ∃ h', fn_Rope_setRests r (nI m) h = some (none, h') ∧ RopeIs h' r n (ropU Q 6 (bt1 m)) ∧ Frm h h' r 8 := by
  obtain ⟨R, h1, h2⟩ := hr
  refine ⟨_, s_setRests h1 hn hm, ⟨_, rope_set6 h1 _, fun j hj i hi => ?_⟩, (Frm.set _ _ _).wide (by omega) (by omega)⟩
  unfold ropU
  split
  · simp [btU, hi]
  · exact h2 j hj i hi
theorem t_tiePart {h : ab_H} {r o n k b e : Nat} {Q O : Nat → Nat → Int32} (hr : RopeIs h r n Q) (ho : RopeIs h o k O) (hd : r + 8 ≤ o ∨ o + 8 ≤ r) (hk : k ≤ 5) (he : e ≤ k) (hb : b ≤ e) :
    ∃ h', fn_Rope_tiePart r o (nI b) (nI e) h = some (none, h') ∧ RopeIs h' r (e - b) (fun j i => O j (b + i)) ∧ Frm h h' r 8 := by
  obtain ⟨R, h1, h2⟩ := hr
  obtain ⟨P, o1, o2⟩ := ho
  obtain ⟨h', e1, r1, f1⟩ := s_tiePart h1 o1 hd hk he hb
  refine ⟨h', e1, ⟨_, r1, fun j hj i hi => ?_⟩, f1⟩
  simp only [tieU, hi, if_true]
  exact o2 j hj (b + i) (by omega)
theorem t_copy {h : ab_H} {r o n k : Nat} {Q O : Nat → Nat → Int32} (hr : RopeIs h r n Q) (ho : RopeIs h o k O) (hd : r + 8 ≤ o ∨ o + 8 ≤ r) (hk : k ≤ 5) :
    ∃ h', fn_Rope_copyFrom r o h = some (none, h') ∧ RopeIs h' r k O ∧ Frm h h' r 8 := by
  obtain ⟨R, h1, h2⟩ := hr
  obtain ⟨P, o1, o2⟩ := ho
  obtain ⟨h', e1, r1, f1⟩ := s_ropeCopy h1 o1 hd hk
  refine ⟨h', e1, ⟨_, r1, fun j hj i hi => ?_⟩, f1⟩
  simp only [tieU, hi, if_true, Nat.zero_add]
  exact o2 j hj i hi
section
variable {T : Type} {h : ab_H} {r w n : Nat} {Q V : Nat → Nat → Int32}
theorem ri_n (hr : RopeIs h r n Q) (K : Int32 → Option T) : ab_gfi h r 2 0 K = K (nI n) := by obtain ⟨R, h1, -⟩ := hr; exact rp_n h1 K
theorem ri_c (hr : RopeIs h r n Q) (K : Option T) : ab_ckc h r 2 K = K := by obtain ⟨R, h1, -⟩ := hr; exact rp_c h1 K
theorem wi_c (hw : WallIs h w V) (K : Option T) : ab_ckc h w 8 K = K := by obtain ⟨W, h1, -⟩ := hw; exact wl_c h1 K
end
