/-! BOTH SIDES TOGETHER: x the class's object (129 cells), m the reference's (14 cells) -/
def Gd (f : Nat → Int32) (n a sg rs nn un : Nat) : Prop := Fo f n a sg rs ∧ No f nn ∧ WallOk (WF f) ∧ un ≤ 8 ∧ f 5 = nI un ∧ (∀ i, i < un → ∃ b s r, b ≤ 8 ∧ s < 2 ^ n ∧ r < 2 ^ n ∧ f (70 + 3 * i) = nI b ∧ f (70 + 3 * i + 1) = nI s ∧ f (70 + 3 * i + 2) = nI r)
/-- the scene at s is the one that f tells -/
def ScIs (h : ab_H) (s : Nat) (f : Nat → Int32) (n a sg rs nn un : Nat) : Prop := ∃ W R N U, SceneAt h s (W, n, R, nn, N, un, U, a) ∧ WEq W (WF f) ∧ REq n R (RF f sg rs) ∧ (∀ j, j < 2 → ∀ i, i < nn → N j i = NF f j i) ∧ (∀ j, j < 3 → ∀ i, i < un → U j i = f (70 + 3 * i + j))
theorem ScIs.frm {h h' : ab_H} {s b k : Nat} {f : Nat → Int32} {n a sg rs nn un : Nat} (hs : ScIs h s f n a sg rs nn un) (fr : Frm h h' b k) (hd : s + 21 ≤ b ∨ b + k ≤ s) : ScIs h' s f n a sg rs nn un := by
  obtain ⟨W, R, N, U, h1, h2⟩ := hs
  exact ⟨W, R, N, U, h1.frm fr hd, h2⟩
theorem ScIs.sq {h : ab_H} {s : Nat} {f : Nat → Int32} {n a sg rs nn un : Nat} (hs : ScIs h s f n a sg rs nn un) : SQ h s (WF f) n (RF f sg rs) a := by
  obtain ⟨W, R, N, U, h1, h2, h3, h4, h5⟩ := hs
  exact ⟨h1.1, ⟨W, h1.2.1, h2⟩, ⟨R, h1.2.2.1, h3⟩⟩
def Shp (h : ab_H) (s : Nat) : Prop := ∃ c, SceneAt h s c
theorem Shp.frm {h h' : ab_H} {s b k : Nat} (hs : Shp h s) (fr : Frm h h' b k) (hd : s + 21 ≤ b ∨ b + k ≤ s) : Shp h' s := by
  obtain ⟨c, h1⟩ := hs
  exact ⟨c, h1.frm fr hd⟩
theorem ScIs.shp {h : ab_H} {s : Nat} {f : Nat → Int32} {n a sg rs nn un : Nat} (hs : ScIs h s f n a sg rs nn un) : Shp h s := by
  obtain ⟨W, R, N, U, h1, -⟩ := hs
  exact ⟨_, h1⟩
def xFs (x : Nat) (u v : Int64) (rf : Nat → Int32) : List Value := [.ref (x + 1), .ref (x + 22), .ref (x + 43), .ref (x + 86), .ref (x + 87), .ref (x + 89), .ref (x + 98), .ref (x + 109), .ref (x + 120), .long u, .long v, .int (rf 0), .int (rf 1), .int (rf 2)]
def im (kp : Nat → Int32) (i : Nat) : Nat → Int32 := fun k => kp (94 * i + k)
/-- an image that is kept -/
def ImIs (h : ab_H) (s : Nat) (f : Nat → Int32) : Prop := ∃ n a sg rs nn un, Gd f n a sg rs nn un ∧ ScIs h s f n a sg rs nn un
theorem ImIs.frm {h h' : ab_H} {s b k : Nat} {f : Nat → Int32} (hs : ImIs h s f) (fr : Frm h h' b k) (hd : s + 21 ≤ b ∨ b + k ≤ s) : ImIs h' s f := by
  obtain ⟨n, a, sg, rs, nn, un, h1, h2⟩ := hs
  exact ⟨n, a, sg, rs, nn, un, h1, h2.frm fr hd⟩
/-- images, and which are kept -/
def ImgOk (h : ab_H) (x : Nat) (kp fl : Nat → Int32) : Prop := ab_get h (x + 43) = some (.inr (30, [.ref (x + 44), .ref (x + 65)])) ∧ ab_get h (x + 86) = some (.inl (0, 2, fl)) ∧ Shp h (x + 44) ∧ Shp h (x + 65) ∧ (fl 0 = 0 ∨ (fl 0 = 1 ∧ ImIs h (x + 44) (im kp 0))) ∧ (fl 1 = 0 ∨ (fl 1 = 1 ∧ ImIs h (x + 65) (im kp 1)))
theorem ImgOk.frm {h h' : ab_H} {x b k : Nat} {kp fl : Nat → Int32} (hi : ImgOk h x kp fl) (fr : Frm h h' b k) (hd : b + k ≤ x + 43 ∨ x + 87 ≤ b) : ImgOk h' x kp fl := by
  obtain ⟨h1, h2, h3, h4, h5, h6⟩ := hi
  refine ⟨by rw [fr.2 _ (by omega)]; exact h1, by rw [fr.2 _ (by omega)]; exact h2, h3.frm fr (by omega), h4.frm fr (by omega), ?_, ?_⟩
  · rcases h5 with e | ⟨e1, e2⟩
    · exact Or.inl e
    · exact Or.inr ⟨e1, e2.frm fr (by omega)⟩
  · rcases h6 with e | ⟨e1, e2⟩
    · exact Or.inl e
    · exact Or.inr ⟨e1, e2.frm fr (by omega)⟩
def TxIs (h : ab_H) (x L : Nat) (bs : Nat → Int32) : Prop := ∃ tk st en, TxAt h x L bs tk st en
theorem TxIs.frm {h h' : ab_H} {x L b k : Nat} {bs : Nat → Int32} (hs : TxIs h x L bs) (fr : Frm h h' b k) (hd : x + 2 ≤ b ∨ b + k ≤ x) : TxIs h' x L bs := by
  obtain ⟨t, s, e, h1⟩ := hs
  exact ⟨t, s, e, h1.frm fr hd⟩
/-- the objects by which questions are asked -/
def QS (h : ab_H) (x : Nat) : Prop := VoAt h (x + 89) ∧ RopeSh h (x + 90) ∧ (∃ k F S, WyAt h (x + 98) k F S) ∧ RopeSh h (x + 99) ∧ (∃ O B, TyAt h (x + 109) O B) ∧ RopeSh h (x + 110) ∧ GuAt h (x + 120) ∧ RopeSh h (x + 121)
theorem GuAt.frm2 {h h' : ab_H} {v b m : Nat} (hv : GuAt h v) (f : Frm h h' b m) (hd : v < b ∨ b + m ≤ v) : GuAt h' v := by
  unfold GuAt
  rw [f.2 _ (by omega)]
  exact hv
theorem QS.frm {h h' : ab_H} {x b k : Nat} (q : QS h x) (fr : Frm h h' b k) (hd : b + k ≤ x + 89 ∨ x + 129 ≤ b) : QS h' x := by
  obtain ⟨q1, q2, ⟨k1, F, S, q3⟩, q4, ⟨O, B, q5⟩, q6, q7, q8⟩ := q
  exact ⟨q1.frm fr (by omega), q2.frm fr (by omega), ⟨k1, F, S, q3.frm fr (by omega)⟩, q4.frm fr (by omega), ⟨O, B, q5.frm fr (by omega)⟩, q6.frm fr (by omega), q7.frm2 fr (by omega), q8.frm fr (by omega)⟩
theorem QS.vo {h h' : ab_H} {x : Nat} (q : QS h x) (fr : Frm h h' (x + 89 + 1) 8) (hr : RopeSh h' (x + 89 + 1)) : QS h' x := by
  obtain ⟨q1, q2, ⟨k1, F, S, q3⟩, q4, ⟨O, B, q5⟩, q6, q7, q8⟩ := q
  exact ⟨q1.frm fr (by omega), hr, ⟨k1, F, S, q3.frm fr (by omega)⟩, q4.frm fr (by omega), ⟨O, B, q5.frm fr (by omega)⟩, q6.frm fr (by omega), q7.frm2 fr (by omega), q8.frm fr (by omega)⟩
theorem QS.wy {h h' : ab_H} {x k : Nat} {F S : Nat → Int32} (q : QS h x) (fr : Frm h h' (x + 98) 11) (hw : WyAt h' (x + 98) k F S) (hr : RopeSh h' (x + 98 + 1)) : QS h' x := by
  obtain ⟨q1, q2, q3, q4, ⟨O, B, q5⟩, q6, q7, q8⟩ := q
  exact ⟨q1.frm fr (by omega), q2.frm fr (by omega), ⟨k, F, S, hw⟩, hr, ⟨O, B, q5.frm fr (by omega)⟩, q6.frm fr (by omega), q7.frm2 fr (by omega), q8.frm fr (by omega)⟩
theorem QS.ty {h h' : ab_H} {x : Nat} {O B : Nat → Int32} (q : QS h x) (fr : Frm h h' (x + 109) 11) (ht : TyAt h' (x + 109) O B) (hr : RopeSh h' (x + 109 + 1)) : QS h' x := by
  obtain ⟨q1, q2, ⟨k1, F, S, q3⟩, q4, q5, q6, q7, q8⟩ := q
  exact ⟨q1.frm fr (by omega), q2.frm fr (by omega), ⟨k1, F, S, q3.frm fr (by omega)⟩, q4.frm fr (by omega), ⟨O, B, ht⟩, hr, q7.frm2 fr (by omega), q8.frm fr (by omega)⟩
theorem QS.gu {h h' : ab_H} {x : Nat} (q : QS h x) (fr : Frm h h' (x + 120 + 1) 8) (hr : RopeSh h' (x + 120 + 1)) : QS h' x := by
  obtain ⟨q1, q2, ⟨k1, F, S, q3⟩, q4, ⟨O, B, q5⟩, q6, q7, q8⟩ := q
  exact ⟨q1.frm fr (by omega), q2.frm fr (by omega), ⟨k1, F, S, q3.frm fr (by omega)⟩, q4.frm fr (by omega), ⟨O, B, q5.frm fr (by omega)⟩, q6.frm fr (by omega), q7.frm2 fr (by omega), hr⟩
/-- the class's object, but for what questions use -/
def XB (h : ab_H) (x : Nat) (A : Nat → Nat → Int32) (L : Nat) (u v : Int64) (n a sg rs nn un : Nat) : Prop :=
  ab_get h x = some (.inr (10, xFs x u v (A 3))) ∧ ScIs h (x + 1) (A 0) n a sg rs nn un ∧ Shp h (x + 22) ∧ ImgOk h x (A 1) (A 2) ∧ TxIs h (x + 87) L (A 10)
theorem XB.frm {h h' : ab_H} {x b k : Nat} {A : Nat → Nat → Int32} {L : Nat} {u v : Int64} {n a sg rs nn un : Nat} (X : XB h x A L u v n a sg rs nn un) (fr : Frm h h' b k) (hd : b + k ≤ x ∨ x + 89 ≤ b) : XB h' x A L u v n a sg rs nn un := by
  obtain ⟨h1, h2, h3, h4, h5⟩ := X
  exact ⟨by rw [fr.2 _ (by omega)]; exact h1, h2.frm fr (by omega), h3.frm fr (by omega), h4.frm fr (by omega), h5.frm fr (by omega)⟩
/-- both sides, and what they agree on -/
def Hk (ro : Nat → Option ab_Ce) (h : ab_H) (x : Nat) : Prop := h.1 ≤ 3000 ∧ 16 ≤ x ∧ ∀ k, k < 16 → ab_get h k = ro k
theorem Hk.frm {ro : Nat → Option ab_Ce} {h h1 : ab_H} {x b k : Nat} (H : Hk ro h x) (f : Frm h h1 b k) (hb : x ≤ b) : Hk ro h1 x := by
  obtain ⟨a1, a2, a3⟩ := H
  exact ⟨by rw [f.1]; exact a1, a2, fun j hj => by rw [f.2 _ (by omega)]; exact a3 j hj⟩
def JW (ro : Nat → Option ab_Ce) (h : ab_H) (x m : Nat) (A : Nat → Nat → Int32) (I : Nat → Int32) (u v : Int64) (L n a sg rs nn un : Nat) : Prop := h = mH h m A I u v ∧ x + 129 ≤ m ∧ Hk ro h x ∧ I 16 = nI L ∧ L ≤ 150 ∧ XB h x A L u v n a sg rs nn un ∧ QS h x ∧ Gd (A 0) n a sg rs nn un
def JR (ro : Nat → Option ab_Ce) (h : ab_H) (x m : Nat) : Prop := ∃ A I u v L n a sg rs nn un, JW ro h x m A I u v L n a sg rs nn un
section
variable {ro : Nat → Option ab_Ce}
/-- where the reference's side ends, the class's side told -/
theorem JW.end {h : ab_H} {x m : Nat} {A : Nat → Nat → Int32} {I : Nat → Int32} {u v : Int64} {L n a sg rs nn un : Nat} (hxm : x + 129 ≤ m) (hh : Hk ro h x) (hI : I 16 = nI L) (hL : L ≤ 150) (X : XB h x A L u v n a sg rs nn un) (Q : QS h x) (G : Gd (A 0) n a sg rs nn un) : JR ro (mH h m A I u v) x m :=
  ⟨A, I, u, v, L, n, a, sg, rs, nn, un, (mH_mH h m A A I I u v u v).symm, hxm, hh.frm (mH_frm h m A I u v) (by omega), hI, hL, X.frm (mH_frm h m A I u v) (by omega), Q.frm (mH_frm h m A I u v) (by omega), G⟩
theorem XB.kq {h : ab_H} {x L : Nat} {A B : Nat → Nat → Int32} {I J : Nat → Int32} {u v : Int64} {n a sg rs nn un : Nat} (X : XB h x A L u v n a sg rs nn un) (k : KQ A I B J) : XB h x B L u v n a sg rs nn un := by
  obtain ⟨h1, h2, h3, h4, h5⟩ := X
  obtain ⟨k0, k1, k2, k3, k10, -⟩ := k
  unfold XB
  rw [k0, k1, k2, k3, k10]
  exact ⟨h1, h2, h3, h4, h5⟩
/-- a question's end -/
theorem JW.ask {h h1 : ab_H} {x m : Nat} {A B : Nat → Nat → Int32} {I J : Nat → Int32} {u v : Int64} {L n a sg rs nn un : Nat} (W : JW ro h x m A I u v L n a sg rs nn un) {b k : Nat} (fr : Frm h h1 b k) (hb : x + 89 ≤ b) (q : QS h1 x) (kq : KQ A I B J) : JR ro (mH h1 m B J u v) x m := by
  obtain ⟨w1, w2, w3, w4, w5, w6, w7, w8⟩ := W
  refine JW.end w2 (w3.frm fr (by omega)) (kq.2.2.2.2.2.trans w4) w5 ((w6.frm fr (by omega)).kq kq) q ?_
  rw [kq.1]
  exact w8
theorem JW.here {h : ab_H} {x m : Nat} {A B : Nat → Nat → Int32} {I J : Nat → Int32} {u v : Int64} {L n a sg rs nn un : Nat} (W : JW ro h x m A I u v L n a sg rs nn un) (kq : KQ A I B J) : JR ro (mH h m B J u v) x m := W.ask (Frm.refl h (x + 89) 0) (Nat.le_refl _) W.2.2.2.2.2.2.1 kq
/-- the reference's cells after the class has written its own -/
theorem JW.mid {h h1 : ab_H} {x m : Nat} {A : Nat → Nat → Int32} {I : Nat → Int32} {u v : Int64} {L n a sg rs nn un : Nat} (W : JW ro h x m A I u v L n a sg rs nn un) {b k : Nat} (fr : Frm h h1 b k) (hb : b + k ≤ x + 129) : h1 = mH h1 m A I u v := mH_keep W.1 fr (by have := W.2.1; omega)
section
variable {T : Type} {h : ab_H} {x : Nat} {u v : Int64} {rf : Nat → Int32}
theorem xx_c (e : ab_get h x = some (.inr (10, xFs x u v rf))) (K : Option T) : ab_ckc h x 10 K = K := ckc_at e K
theorem xx_0 (e : ab_get h x = some (.inr (10, xFs x u v rf))) (K : Nat → Option T) : ab_gfr h x 10 0 K = K (x + 1) := gfr_at e rfl K
theorem xx_1 (e : ab_get h x = some (.inr (10, xFs x u v rf))) (K : Nat → Option T) : ab_gfr h x 10 1 K = K (x + 22) := gfr_at e rfl K
theorem xx_2 (e : ab_get h x = some (.inr (10, xFs x u v rf))) (K : Nat → Option T) : ab_gfr h x 10 2 K = K (x + 43) := gfr_at e rfl K
theorem xx_3 (e : ab_get h x = some (.inr (10, xFs x u v rf))) (K : Nat → Option T) : ab_gfr h x 10 3 K = K (x + 86) := gfr_at e rfl K
theorem xx_4 (e : ab_get h x = some (.inr (10, xFs x u v rf))) (K : Nat → Option T) : ab_gfr h x 10 4 K = K (x + 87) := gfr_at e rfl K
theorem xx_5 (e : ab_get h x = some (.inr (10, xFs x u v rf))) (K : Nat → Option T) : ab_gfr h x 10 5 K = K (x + 89) := gfr_at e rfl K
theorem xx_6 (e : ab_get h x = some (.inr (10, xFs x u v rf))) (K : Nat → Option T) : ab_gfr h x 10 6 K = K (x + 98) := gfr_at e rfl K
theorem xx_7 (e : ab_get h x = some (.inr (10, xFs x u v rf))) (K : Nat → Option T) : ab_gfr h x 10 7 K = K (x + 109) := gfr_at e rfl K
theorem xx_8 (e : ab_get h x = some (.inr (10, xFs x u v rf))) (K : Nat → Option T) : ab_gfr h x 10 8 K = K (x + 120) := gfr_at e rfl K
theorem xx_9 (e : ab_get h x = some (.inr (10, xFs x u v rf))) (K : Int64 → Option T) : ab_gfl h x 10 9 K = K u := gfl_at e rfl K
theorem xx_10 (e : ab_get h x = some (.inr (10, xFs x u v rf))) (K : Int64 → Option T) : ab_gfl h x 10 10 K = K v := gfl_at e rfl K
theorem xx_11 (e : ab_get h x = some (.inr (10, xFs x u v rf))) (K : Int32 → Option T) : ab_gfi h x 10 11 K = K (rf 0) := gfi_at e rfl K
theorem xx_12 (e : ab_get h x = some (.inr (10, xFs x u v rf))) (K : Int32 → Option T) : ab_gfi h x 10 12 K = K (rf 1) := gfi_at e rfl K
theorem xx_13 (e : ab_get h x = some (.inr (10, xFs x u v rf))) (K : Int32 → Option T) : ab_gfi h x 10 13 K = K (rf 2) := gfi_at e rfl K
theorem xx_p11 (e : ab_get h x = some (.inr (10, xFs x u v rf))) (y : Int32) (K : ab_H → Option T) : ab_pf h x 10 11 (.int y) K = K (ab_set h x (.inr (10, xFs x u v (upd rf 0 y)))) := pf_at e (show 11 < 14 by decide) _ K
theorem xx_p12 (e : ab_get h x = some (.inr (10, xFs x u v rf))) (y : Int32) (K : ab_H → Option T) : ab_pf h x 10 12 (.int y) K = K (ab_set h x (.inr (10, xFs x u v (upd rf 1 y)))) := pf_at e (show 12 < 14 by decide) _ K
theorem xx_p13 (e : ab_get h x = some (.inr (10, xFs x u v rf))) (y : Int32) (K : ab_H → Option T) : ab_pf h x 10 13 (.int y) K = K (ab_set h x (.inr (10, xFs x u v (upd rf 2 y)))) := pf_at e (show 13 < 14 by decide) _ K
theorem xx_p9 (e : ab_get h x = some (.inr (10, xFs x u v rf))) (y : Int64) (K : ab_H → Option T) : ab_pf h x 10 9 (.long y) K = K (ab_set h x (.inr (10, xFs x y v rf))) := pf_at e (show 9 < 14 by decide) _ K
theorem xx_p10 (e : ab_get h x = some (.inr (10, xFs x u v rf))) (y : Int64) (K : ab_H → Option T) : ab_pf h x 10 10 (.long y) K = K (ab_set h x (.inr (10, xFs x u y rf))) := pf_at e (show 10 < 14 by decide) _ K
end
/-- the object's own cell written -/
theorem XB.own {h : ab_H} {x L : Nat} {A : Nat → Nat → Int32} {u v : Int64} {n a sg rs nn un : Nat} (X : XB h x A L u v n a sg rs nn un) (u' v' : Int64) (rf : Nat → Int32) : XB (ab_set h x (.inr (10, xFs x u' v' rf))) x (ropU A 3 rf) L u' v' n a sg rs nn un := by
  obtain ⟨h1, h2, h3, h4, h5⟩ := X
  have fr := Frm.set h x (.inr (10, xFs x u' v' rf))
  exact ⟨get_same _ _ _, h2.frm fr (by omega), h3.frm fr (by omega), h4.frm fr (by omega), h5.frm fr (by omega)⟩
section
variable {h : ab_H} {x m : Nat} {A : Nat → Nat → Int32} {I : Nat → Int32} {u v : Int64} {L n a sg rs nn un : Nat}
theorem JW.cell (W : JW ro h x m A I u v L n a sg rs nn un) : ab_get h x = some (.inr (10, xFs x u v (A 3))) := W.2.2.2.2.2.1.1
theorem JW.own (W : JW ro h x m A I u v L n a sg rs nn un) (k : Nat) (y : Int32) : ∃ h1, ab_set h x (.inr (10, xFs x u v (upd (A 3) k y))) = h1 ∧ h1 = mH h1 m A I u v ∧ JR ro (mH h1 m (ropU A 3 (upd (A 3) k y)) I u v) x m := by
  have fr := Frm.set h x (.inr (10, xFs x u v (upd (A 3) k y)))
  refine ⟨_, rfl, W.mid fr (by omega), ?_⟩
  obtain ⟨w1, w2, w3, w4, w5, w6, w7, w8⟩ := W
  exact JW.end w2 (w3.frm fr (by omega)) w4 w5 (w6.own u v _) (w7.frm fr (by omega)) w8
theorem j_bad (W : JW ro h x m A I u v L n a sg rs nn un) (y : Int32) : ∃ h1 B, fn_X_bad x y h = some (some (.int y), h1) ∧ h1 = mH h1 m A I u v ∧ fn_M_bad m y (mH h1 m A I u v) = some (some (.int y), mH h1 m B I u v) ∧ JR ro (mH h1 m B I u v) x m := by
  obtain ⟨h1, e1, e2, e3⟩ := W.own 0 (A 3 0 + 1)
  refine ⟨h1, _, ?_, e2, m_bad y, e3⟩
  rw [q_X_bad, xx_11 W.cell, xx_p11 W.cell, e1]
theorem j_no (W : JW ro h x m A I u v L n a sg rs nn un) : ∃ h1 B, fn_X_no x h = some (some (.int (-3)), h1) ∧ h1 = mH h1 m A I u v ∧ fn_M_no m (mH h1 m A I u v) = some (some (.int (-3)), mH h1 m B I u v) ∧ JR ro (mH h1 m B I u v) x m := by
  obtain ⟨h1, e1, e2, e3⟩ := W.own 1 (A 3 1 + 1)
  refine ⟨h1, _, ?_, e2, m_no, e3⟩
  rw [q_X_no, xx_12 W.cell, xx_p12 W.cell, e1]
theorem j_full (W : JW ro h x m A I u v L n a sg rs nn un) : ∃ h1 B, fn_X_full x h = some (some (.int (-4)), h1) ∧ h1 = mH h1 m A I u v ∧ fn_M_full m (mH h1 m A I u v) = some (some (.int (-4)), mH h1 m B I u v) ∧ JR ro (mH h1 m B I u v) x m := by
  obtain ⟨h1, e1, e2, e3⟩ := W.own 2 (A 3 2 + 1)
  refine ⟨h1, _, ?_, e2, m_full, e3⟩
  rw [q_X_full, xx_13 W.cell, xx_p13 W.cell, e1]
end
end
