/-! THE LAW'S LOOP (by program, gen/mk7b.py) -/
section
variable {ro : Nat → Option ab_Ce}
def Res (t : Option ab_R) : Prop := ∃ h', t = some (some (.int 1), h') ∧ h'.1 ≤ 3000
theorem Res.ite {P : Prop} [Decidable P] {a b : Option ab_R} (h1 : P → Res a) (h2 : ¬ P → Res b) : Res (if P then a else b) := by
  by_cases h : P
  · rw [if_pos h]; exact h1 h
  · rw [if_neg h]; exact h2 h
theorem iald3 {T : Type} {h : ab_H} {N p : Nat} {xs : Nat → Int32} (e : ab_get h 0 = some (.inl (3, N, xs))) (hp : p < N) (hN : N ≤ 320) (K : Int32 → Option T) : ab_iald h 0 (nI p) K = K (xs p) := by
  unfold ab_iald
  rw [e]
  simp only
  rw [nI_clamp (by omega), if_pos ⟨Or.inr trivial, nI_pos' (by omega), hp⟩]
theorem nI_a4 (p : Nat) : nI p + (4 : Int32) = nI (p + 4) := nI_add p 4
theorem nI_a5 (p : Nat) : nI p + (5 : Int32) = nI (p + 5) := nI_add p 5
theorem JR.parts {h : ab_H} {x m : Nat} (J : JR ro h x m) : (∃ fs, ab_get h x = some (.inr (10, fs))) ∧ ab_get h 0 = ro 0 ∧ h.1 ≤ 3000 := by
  obtain ⟨A, I, u, v, L, n, a, sg, rs, nn, un, W⟩ := J
  exact ⟨⟨_, W.cell⟩, W.2.2.1.2.2 0 (by omega), W.2.2.1.1⟩
section
variable {h : ab_H} {x m N i : Nat} {xs : Nat → Int32}

theorem law0 (J : JR ro h x m) (e0 : ro 0 = some (.inl (3, N, xs))) (hN : N ≤ 320) (hi : i + 5 ≤ N) (X : Option ab_R) (M : ab_H → Option ab_R) (K Z : ab_H → Option ab_R) (j : JI ro (X) (fun k => M k) x m) (hK : ∀ h2, JR ro h2 x m → Res (K h2)) : Res (ab_ckc h x 10 (ab_cI (X) fun r h1 => (ab_ckc h1 m 11 (ab_cI (M h1) fun r' h2 => (if r = r' then K h2 else Z h2))))) := by
  obtain ⟨⟨fs, c1⟩, c2, -⟩ := J.parts
  obtain ⟨r, h1, h2, eX, eM, J2, ⟨A, I, u, v, em⟩, c3⟩ := j
  have eM : M h1 = some (some (.int r), h2) := eM
  have d1 := c2.trans e0
  have d2 := c3.trans e0
  have ck : ∀ K : Option ab_R, ab_ckc h1 m 11 K = K := fun K => by
    rw [em]
    exact mc K
  rw [ckc_at c1, eX, cI_some, ck, eM, cI_some, if_pos rfl]
  exact hK h2 J2
theorem law0l (J : JR ro h x m) (e0 : ro 0 = some (.inl (3, N, xs))) (hN : N ≤ 320) (hi : i + 5 ≤ N) (X : Option ab_R) (M : ab_H → Option ab_R) (K Z : ab_H → Option ab_R) (j : JL ro (X) (fun k => M k) x m) (hK : ∀ h2, JR ro h2 x m → Res (K h2)) : Res (ab_ckc h x 10 (ab_cL (X) fun r h1 => (ab_ckc h1 m 11 (ab_cL (M h1) fun r' h2 => (if lg_cmp r r' = 0 then K h2 else Z h2))))) := by
  obtain ⟨⟨fs, c1⟩, c2, -⟩ := J.parts
  obtain ⟨r, h1, h2, eX, eM, J2, ⟨A, I, u, v, em⟩, c3⟩ := j
  have eM : M h1 = some (some (.long r), h2) := eM
  have d1 := c2.trans e0
  have d2 := c3.trans e0
  have ck : ∀ K : Option ab_R, ab_ckc h1 m 11 K = K := fun K => by
    rw [em]
    exact mc K
  have z : lg_cmp r r = 0 := (lg_cmp_eq r r).mpr rfl
  rw [ckc_at c1, eX, cL_some, ck, eM, cL_some, if_pos z]
  exact hK h2 J2
theorem law1 (J : JR ro h x m) (e0 : ro 0 = some (.inl (3, N, xs))) (hN : N ≤ 320) (hi : i + 5 ≤ N) (X : Int32 → Option ab_R) (M : Int32 → ab_H → Option ab_R) (K Z : ab_H → Option ab_R) (j : JI ro (X (xs (i + 1))) (fun k => M (xs (i + 1)) k) x m) (hK : ∀ h2, JR ro h2 x m → Res (K h2)) : Res (ab_iald h 0 (nI i + (1 : Int32)) fun v1 => (ab_ckc h x 10 (ab_cI (X v1) fun r h1 => (ab_iald h1 0 (nI i + (1 : Int32)) fun w1 => (ab_ckc h1 m 11 (ab_cI (M w1 h1) fun r' h2 => (if r = r' then K h2 else Z h2))))))) := by
  obtain ⟨⟨fs, c1⟩, c2, -⟩ := J.parts
  obtain ⟨r, h1, h2, eX, eM, J2, ⟨A, I, u, v, em⟩, c3⟩ := j
  have eM : M (xs (i + 1)) h1 = some (some (.int r), h2) := eM
  have d1 := c2.trans e0
  have d2 := c3.trans e0
  have ck : ∀ K : Option ab_R, ab_ckc h1 m 11 K = K := fun K => by
    rw [em]
    exact mc K
  rw [nI_1, iald3 d1 (show i + 1 < N by omega) hN, ckc_at c1, eX, cI_some, iald3 d2 (show i + 1 < N by omega) hN, ck, eM, cI_some, if_pos rfl]
  exact hK h2 J2
theorem law1l (J : JR ro h x m) (e0 : ro 0 = some (.inl (3, N, xs))) (hN : N ≤ 320) (hi : i + 5 ≤ N) (X : Int32 → Option ab_R) (M : Int32 → ab_H → Option ab_R) (K Z : ab_H → Option ab_R) (j : JL ro (X (xs (i + 1))) (fun k => M (xs (i + 1)) k) x m) (hK : ∀ h2, JR ro h2 x m → Res (K h2)) : Res (ab_iald h 0 (nI i + (1 : Int32)) fun v1 => (ab_ckc h x 10 (ab_cL (X v1) fun r h1 => (ab_iald h1 0 (nI i + (1 : Int32)) fun w1 => (ab_ckc h1 m 11 (ab_cL (M w1 h1) fun r' h2 => (if lg_cmp r r' = 0 then K h2 else Z h2))))))) := by
  obtain ⟨⟨fs, c1⟩, c2, -⟩ := J.parts
  obtain ⟨r, h1, h2, eX, eM, J2, ⟨A, I, u, v, em⟩, c3⟩ := j
  have eM : M (xs (i + 1)) h1 = some (some (.long r), h2) := eM
  have d1 := c2.trans e0
  have d2 := c3.trans e0
  have ck : ∀ K : Option ab_R, ab_ckc h1 m 11 K = K := fun K => by
    rw [em]
    exact mc K
  have z : lg_cmp r r = 0 := (lg_cmp_eq r r).mpr rfl
  rw [nI_1, iald3 d1 (show i + 1 < N by omega) hN, ckc_at c1, eX, cL_some, iald3 d2 (show i + 1 < N by omega) hN, ck, eM, cL_some, if_pos z]
  exact hK h2 J2
theorem law2 (J : JR ro h x m) (e0 : ro 0 = some (.inl (3, N, xs))) (hN : N ≤ 320) (hi : i + 5 ≤ N) (X : Int32 → Int32 → Option ab_R) (M : Int32 → Int32 → ab_H → Option ab_R) (K Z : ab_H → Option ab_R) (j : JI ro (X (xs (i + 1)) (xs (i + 2))) (fun k => M (xs (i + 1)) (xs (i + 2)) k) x m) (hK : ∀ h2, JR ro h2 x m → Res (K h2)) : Res (ab_iald h 0 (nI i + (1 : Int32)) fun v1 => (ab_iald h 0 (nI i + (2 : Int32)) fun v2 => (ab_ckc h x 10 (ab_cI (X v1 v2) fun r h1 => (ab_iald h1 0 (nI i + (1 : Int32)) fun w1 => (ab_iald h1 0 (nI i + (2 : Int32)) fun w2 => (ab_ckc h1 m 11 (ab_cI (M w1 w2 h1) fun r' h2 => (if r = r' then K h2 else Z h2))))))))) := by
  obtain ⟨⟨fs, c1⟩, c2, -⟩ := J.parts
  obtain ⟨r, h1, h2, eX, eM, J2, ⟨A, I, u, v, em⟩, c3⟩ := j
  have eM : M (xs (i + 1)) (xs (i + 2)) h1 = some (some (.int r), h2) := eM
  have d1 := c2.trans e0
  have d2 := c3.trans e0
  have ck : ∀ K : Option ab_R, ab_ckc h1 m 11 K = K := fun K => by
    rw [em]
    exact mc K
  rw [nI_1, nI_a2, iald3 d1 (show i + 1 < N by omega) hN, iald3 d1 (show i + 2 < N by omega) hN, ckc_at c1, eX, cI_some, iald3 d2 (show i + 1 < N by omega) hN, iald3 d2 (show i + 2 < N by omega) hN, ck, eM, cI_some, if_pos rfl]
  exact hK h2 J2
theorem law3 (J : JR ro h x m) (e0 : ro 0 = some (.inl (3, N, xs))) (hN : N ≤ 320) (hi : i + 5 ≤ N) (X : Int32 → Int32 → Int32 → Option ab_R) (M : Int32 → Int32 → Int32 → ab_H → Option ab_R) (K Z : ab_H → Option ab_R) (j : JI ro (X (xs (i + 1)) (xs (i + 2)) (xs (i + 3))) (fun k => M (xs (i + 1)) (xs (i + 2)) (xs (i + 3)) k) x m) (hK : ∀ h2, JR ro h2 x m → Res (K h2)) : Res (ab_iald h 0 (nI i + (1 : Int32)) fun v1 => (ab_iald h 0 (nI i + (2 : Int32)) fun v2 => (ab_iald h 0 (nI i + (3 : Int32)) fun v3 => (ab_ckc h x 10 (ab_cI (X v1 v2 v3) fun r h1 => (ab_iald h1 0 (nI i + (1 : Int32)) fun w1 => (ab_iald h1 0 (nI i + (2 : Int32)) fun w2 => (ab_iald h1 0 (nI i + (3 : Int32)) fun w3 => (ab_ckc h1 m 11 (ab_cI (M w1 w2 w3 h1) fun r' h2 => (if r = r' then K h2 else Z h2))))))))))) := by
  obtain ⟨⟨fs, c1⟩, c2, -⟩ := J.parts
  obtain ⟨r, h1, h2, eX, eM, J2, ⟨A, I, u, v, em⟩, c3⟩ := j
  have eM : M (xs (i + 1)) (xs (i + 2)) (xs (i + 3)) h1 = some (some (.int r), h2) := eM
  have d1 := c2.trans e0
  have d2 := c3.trans e0
  have ck : ∀ K : Option ab_R, ab_ckc h1 m 11 K = K := fun K => by
    rw [em]
    exact mc K
  rw [nI_1, nI_a2, nI_a3, iald3 d1 (show i + 1 < N by omega) hN, iald3 d1 (show i + 2 < N by omega) hN, iald3 d1 (show i + 3 < N by omega) hN, ckc_at c1, eX, cI_some, iald3 d2 (show i + 1 < N by omega) hN, iald3 d2 (show i + 2 < N by omega) hN, iald3 d2 (show i + 3 < N by omega) hN, ck, eM, cI_some, if_pos rfl]
  exact hK h2 J2
theorem law4 (J : JR ro h x m) (e0 : ro 0 = some (.inl (3, N, xs))) (hN : N ≤ 320) (hi : i + 5 ≤ N) (X : Int32 → Int32 → Int32 → Int32 → Option ab_R) (M : Int32 → Int32 → Int32 → Int32 → ab_H → Option ab_R) (K Z : ab_H → Option ab_R) (j : JI ro (X (xs (i + 1)) (xs (i + 2)) (xs (i + 3)) (xs (i + 4))) (fun k => M (xs (i + 1)) (xs (i + 2)) (xs (i + 3)) (xs (i + 4)) k) x m) (hK : ∀ h2, JR ro h2 x m → Res (K h2)) : Res (ab_iald h 0 (nI i + (1 : Int32)) fun v1 => (ab_iald h 0 (nI i + (2 : Int32)) fun v2 => (ab_iald h 0 (nI i + (3 : Int32)) fun v3 => (ab_iald h 0 (nI i + (4 : Int32)) fun v4 => (ab_ckc h x 10 (ab_cI (X v1 v2 v3 v4) fun r h1 => (ab_iald h1 0 (nI i + (1 : Int32)) fun w1 => (ab_iald h1 0 (nI i + (2 : Int32)) fun w2 => (ab_iald h1 0 (nI i + (3 : Int32)) fun w3 => (ab_iald h1 0 (nI i + (4 : Int32)) fun w4 => (ab_ckc h1 m 11 (ab_cI (M w1 w2 w3 w4 h1) fun r' h2 => (if r = r' then K h2 else Z h2))))))))))))) := by
  obtain ⟨⟨fs, c1⟩, c2, -⟩ := J.parts
  obtain ⟨r, h1, h2, eX, eM, J2, ⟨A, I, u, v, em⟩, c3⟩ := j
  have eM : M (xs (i + 1)) (xs (i + 2)) (xs (i + 3)) (xs (i + 4)) h1 = some (some (.int r), h2) := eM
  have d1 := c2.trans e0
  have d2 := c3.trans e0
  have ck : ∀ K : Option ab_R, ab_ckc h1 m 11 K = K := fun K => by
    rw [em]
    exact mc K
  rw [nI_1, nI_a2, nI_a3, nI_a4, iald3 d1 (show i + 1 < N by omega) hN, iald3 d1 (show i + 2 < N by omega) hN, iald3 d1 (show i + 3 < N by omega) hN, iald3 d1 (show i + 4 < N by omega) hN, ckc_at c1, eX, cI_some, iald3 d2 (show i + 1 < N by omega) hN, iald3 d2 (show i + 2 < N by omega) hN, iald3 d2 (show i + 3 < N by omega) hN, iald3 d2 (show i + 4 < N by omega) hN, ck, eM, cI_some, if_pos rfl]
  exact hK h2 J2
end
theorem law_end {N i : Nat} (hN : N ≤ 320) (hi : i ≤ 330) : (nI N - 5 < nI i) ↔ N < i + 5 := by
  rw [Int32.lt_iff_toInt_lt, show (nI N - 5 : Int32) = nI N - nI 5 from rfl, pk_sub_toInt (by omega) (by omega), nI_toInt (by omega)]
  omega
set_option maxHeartbeats 4000000 in
set_option maxRecDepth 100000 in
theorem law_loop {x m N : Nat} {xs : Nat → Int32} (R : RoW ro) (e0 : ro 0 = some (.inl (3, N, xs))) (hN : N ≤ 320) : ∀ (k i : Nat) (h : ab_H), N ≤ i + 5 * k → i ≤ 325 → JR ro h x m → Res (pt_Law_law_18 0 x m (nI i) h) := by
  have en : ∀ (h : ab_H), JR ro h x m → ∀ {T : Type} (K : Int32 → Option T), ab_alen h 0 K = K (nI N) := fun h J T K => by
    unfold ab_alen
    rw [J.parts.2.1, e0]
    rfl
  intro k
  induction k with
  | zero =>
    intro i h hk hi J
    rw [q_Law_law_18, en h J, if_pos ((law_end hN (by omega)).mpr (by omega)), chk_b1]
    exact ⟨h, rfl, J.parts.2.2⟩
  | succ k ih =>
    intro i h hk hi J
    by_cases hlt : N < i + 5
    · rw [q_Law_law_18, en h J, if_pos ((law_end hN (by omega)).mpr hlt), chk_b1]
      exact ⟨h, rfl, J.parts.2.2⟩
    · have hK : ∀ h2, JR ro h2 x m → Res (pt_Law_law_18 0 x m (nI i + (5 : Int32)) h2) := fun h2 J2 => by
        rw [nI_a5]
        exact ih (i + 5) h2 (by omega) (by omega) J2
      have hi5 : i + 5 ≤ N := by omega
      rw [q_Law_law_18, en h J, if_neg (fun z => hlt ((law_end hN (by omega)).mp z)), iald3 (J.parts.2.1.trans e0) (show i < N by omega) hN]
      refine Res.ite (fun _ => law0 J e0 hN hi5 (fn_X_wall x h) (fun k => fn_M_wall m k) _ _ (j_wall J) hK) (fun _ => ?_)
      refine Res.ite (fun _ => law4 J e0 hN hi5 (fun a b c d => fn_X_pitch x a b c d h) (fun a b c d k => fn_M_pitch m a b c d k) _ _ (j_pitch J _ _ _ _) hK) (fun _ => ?_)
      refine Res.ite (fun _ => law2 J e0 hN hi5 (fun a b => fn_X_ice x a b h) (fun a b k => fn_M_ice m a b k) _ _ (j_ice J _ _) hK) (fun _ => ?_)
      refine Res.ite (fun _ => law4 J e0 hN hi5 (fun a b c d => fn_X_climber x a b c d h) (fun a b c d k => fn_M_climber m a b c d k) _ _ (j_climber J _ _ _ _) hK) (fun _ => ?_)
      refine Res.ite (fun _ => law1 J e0 hN hi5 (fun a => fn_X_type x a h) (fun a k => fn_M_type m a k) _ _ (j_type J _) hK) (fun _ => ?_)
      refine Res.ite (fun _ => law0 J e0 hN hi5 (fn_X_clear x h) (fun k => fn_M_clear m k) _ _ (j_clear J) hK) (fun _ => ?_)
      refine Res.ite (fun _ => law0 J e0 hN hi5 (fn_X_read x h) (fun k => fn_M_read m k) _ _ (j_read R J) hK) (fun _ => ?_)
      refine Res.ite (fun _ => law2 J e0 hN hi5 (fun a b => fn_X_sag x a b h) (fun a b k => fn_M_sag m a b k) _ _ (j_sag J _ _) hK) (fun _ => ?_)
      refine Res.ite (fun _ => law2 J e0 hN hi5 (fun a b => fn_X_rest x a b h) (fun a b k => fn_M_rest m a b k) _ _ (j_rest J _ _) hK) (fun _ => ?_)
      refine Res.ite (fun _ => law0 J e0 hN hi5 (fn_X_go x h) (fun k => fn_M_go m k) _ _ (j_go J) hK) (fun _ => ?_)
      refine Res.ite (fun _ => law0 J e0 hN hi5 (fn_X_undo x h) (fun k => fn_M_undo m k) _ _ (j_undo J) hK) (fun _ => ?_)
      refine Res.ite (fun _ => law2 J e0 hN hi5 (fun a b => fn_X_of x a b h) (fun a b k => fn_M_of m a b k) _ _ (j_of J _ _) hK) (fun _ => ?_)
      refine Res.ite (fun _ => law2 J e0 hN hi5 (fun a b => fn_X_hangs x a b h) (fun a b k => fn_M_hangs m a b k) _ _ (j_hangs J _ _) hK) (fun _ => ?_)
      refine Res.ite (fun _ => law1 J e0 hN hi5 (fun a => fn_X_says x a h) (fun a k => fn_M_says m a k) _ _ (j_says J _) hK) (fun _ => ?_)
      refine Res.ite (fun _ => law1 J e0 hN hi5 (fun a => fn_X_path x a h) (fun a k => fn_M_path m a k) _ _ (j_path J _) hK) (fun _ => ?_)
      refine Res.ite (fun _ => law2 J e0 hN hi5 (fun a b => fn_X_by x a b h) (fun a b k => fn_M_by m a b k) _ _ (j_by J _ _) hK) (fun _ => ?_)
      refine Res.ite (fun _ => law1 J e0 hN hi5 (fun a => fn_X_canSay x a h) (fun a k => fn_M_canSay m a k) _ _ (j_canSay J _) hK) (fun _ => ?_)
      refine Res.ite (fun _ => law1 J e0 hN hi5 (fun a => fn_X_mine x a h) (fun a k => fn_M_mine m a k) _ _ (j_mine J _) hK) (fun _ => ?_)
      refine Res.ite (fun _ => law2 J e0 hN hi5 (fun a b => fn_X_tied x a b h) (fun a b k => fn_M_tied m a b k) _ _ (j_tied J _ _) hK) (fun _ => ?_)
      refine Res.ite (fun _ => law2 J e0 hN hi5 (fun a b => fn_X_cut x a b h) (fun a b k => fn_M_cut m a b k) _ _ (j_cut J _ _) hK) (fun _ => ?_)
      refine Res.ite (fun _ => law2 J e0 hN hi5 (fun a b => fn_X_rests x a b h) (fun a b k => fn_M_rests m a b k) _ _ (j_rests J _ _) hK) (fun _ => ?_)
      refine Res.ite (fun _ => law2 J e0 hN hi5 (fun a b => fn_X_note x a b h) (fun a b k => fn_M_note m a b k) _ _ (j_note J _ _) hK) (fun _ => ?_)
      refine Res.ite (fun _ => law0 J e0 hN hi5 (fn_X_forget x h) (fun k => fn_M_forget m k) _ _ (j_forget J) hK) (fun _ => ?_)
      refine Res.ite (fun _ => law1 J e0 hN hi5 (fun a => fn_X_stones x a h) (fun a k => fn_M_stones m a k) _ _ (j_stones J _) hK) (fun _ => ?_)
      refine Res.ite (fun _ => law1 J e0 hN hi5 (fun a => fn_X_is x a h) (fun a k => fn_M_is m a k) _ _ (j_is J _) hK) (fun _ => ?_)
      refine Res.ite (fun _ => law1 J e0 hN hi5 (fun a => fn_X_look x a h) (fun a k => fn_M_look m a k) _ _ (j_look J _) hK) (fun _ => ?_)
      refine Res.ite (fun _ => law2 J e0 hN hi5 (fun a b => fn_X_slips x a b h) (fun a b k => fn_M_slips m a b k) _ _ (j_slips J _ _) hK) (fun _ => ?_)
      refine Res.ite (fun _ => law3 J e0 hN hi5 (fun a b c => fn_X_walls x a b c h) (fun a b c k => fn_M_walls m a b c k) _ _ (j_walls J _ _ _) hK) (fun _ => ?_)
      refine Res.ite (fun _ => law1l J e0 hN hi5 (fun a => fn_X_part x a h) (fun a k => fn_M_part m a k) _ _ (j_part J _) hK) (fun _ => ?_)
      refine Res.ite (fun _ => law1 J e0 hN hi5 (fun a => fn_X_image x a h) (fun a k => fn_M_image m a k) _ _ (j_image J _) hK) (fun _ => ?_)
      refine Res.ite (fun _ => law1 J e0 hN hi5 (fun a => fn_X_from x a h) (fun a k => fn_M_from m a k) _ _ (j_from J _) hK) (fun _ => ?_)
      refine Res.ite (fun _ => law1 J e0 hN hi5 (fun a => fn_X_status x a h) (fun a k => fn_M_status m a k) _ _ (j_status J _) hK) (fun _ => ?_)
      refine Res.ite (fun _ => law1 J e0 hN hi5 (fun a => fn_X_count x a h) (fun a k => fn_M_count m a k) _ _ (j_count J _) hK) (fun _ => ?_)
      refine Res.ite (fun _ => law0l J e0 hN hi5 (fn_X_digest x h) (fun k => fn_M_digest m k) _ _ (j_digest J) hK) (fun _ => ?_)
      exact hK h J
end
