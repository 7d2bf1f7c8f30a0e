/-! what an instruction comes to, as data; runs with fuel; the meaning E of a place, F of a call, and how they unfold -/
abbrev ab_D : Type := (Nat × ab_L × List Value × ab_H) ⊕ ((Option Value × ab_H) ⊕ (Nat × List Value × ab_H × Nat × Nat × ab_L × List Value))
def ab_st1 (i : ab_I) (L : ab_L) (st : List Value) (h : ab_H) : Option ab_D :=
  ab_stp (fun pc L st h => some (.inl (pc, L, st, h))) (fun v h => some (.inr (.inl (v, h)))) (fun z as h t nx L st => some (.inr (.inr (z, as, h, t, nx, L, st)))) i L st h
section
variable {R : Type}
def ab_fold (K : Nat → ab_L → List Value → ab_H → Option R) (Rt : Option Value → ab_H → Option R) (C : Nat → List Value → ab_H → Nat → Nat → ab_L → List Value → Option R) : ab_D → Option R
  | .inl (pc, L, st, h) => K pc L st h
  | .inr (.inl (v, h)) => Rt v h
  | .inr (.inr (z, as, h, t, nx, L, st)) => C z as h t nx L st
variable {S : Type} {G : S → Option R}
theorem ab_ldi_b (L : ab_L) (i : Nat) (K : Int32 → Option S) : (ab_ldi L i K).bind G = ab_ldi L i (fun x => (K x).bind G) := by
  unfold ab_ldi; split <;> rfl
theorem ab_lda_b (L : ab_L) (i : Nat) (K : Nat → Option S) : (ab_lda L i K).bind G = ab_lda L i (fun x => (K x).bind G) := by
  unfold ab_lda; split <;> rfl
theorem ab_ldl_b (L : ab_L) (i : Nat) (K : Int64 → Option S) : (ab_ldl L i K).bind G = ab_ldl L i (fun x => (K x).bind G) := by
  unfold ab_ldl; split
  · split <;> rfl
  · rfl
theorem ab_pi_b (st : List Value) (K : Int32 → List Value → Option S) : (ab_pi st K).bind G = ab_pi st (fun x r => (K x r).bind G) := by
  unfold ab_pi; split <;> rfl
theorem ab_pl_b (st : List Value) (K : Int64 → List Value → Option S) : (ab_pl st K).bind G = ab_pl st (fun x r => (K x r).bind G) := by
  unfold ab_pl; split <;> rfl
theorem ab_pr_b (st : List Value) (K : Nat → List Value → Option S) : (ab_pr st K).bind G = ab_pr st (fun x r => (K x r).bind G) := by
  unfold ab_pr; split <;> rfl
theorem ab_popn_b (K : List Value → List Value → Option S) : ∀ (n : Nat) (st acc : List Value), (ab_popn n st acc K).bind G = ab_popn n st acc (fun x r => (K x r).bind G)
  | 0, _, _ => rfl
  | n + 1, v :: st, acc => ab_popn_b K n st (v :: acc)
  | _ + 1, [], _ => rfl
theorem ab_few_b (st : List Value) (K : Option S) : (ab_few st K).bind G = ab_few st (K.bind G) := by
  unfold ab_few; split <;> rfl
theorem ab_fit_b (n : Nat) (st : List Value) (K : Option S) : (ab_fit n st K).bind G = ab_fit n st (K.bind G) := by
  unfold ab_fit; split <;> rfl
theorem ab_ite_b {c : Prop} [Decidable c] (A B : Option S) : (if c then A else B).bind G = if c then A.bind G else B.bind G := by split <;> rfl
theorem ab_gfi_b (h : ab_H) (r c k : Nat) (K : Int32 → Option S) : (ab_gfi h r c k K).bind G = ab_gfi h r c k (fun x => (K x).bind G) := by
  unfold ab_gfi; split
  · split
    · split <;> rfl
    · rfl
  · rfl
theorem ab_gfr_b (h : ab_H) (r c k : Nat) (K : Nat → Option S) : (ab_gfr h r c k K).bind G = ab_gfr h r c k (fun x => (K x).bind G) := by
  unfold ab_gfr; split
  · split
    · split <;> rfl
    · rfl
  · rfl
theorem ab_gfl_b (h : ab_H) (r c k : Nat) (K : Int64 → Option S) : (ab_gfl h r c k K).bind G = ab_gfl h r c k (fun x => (K x).bind G) := by
  unfold ab_gfl; split
  · split
    · split <;> rfl
    · rfl
  · rfl
theorem ab_pf_b (h : ab_H) (r c k : Nat) (v : Value) (K : ab_H → Option S) : (ab_pf h r c k v K).bind G = ab_pf h r c k v (fun x => (K x).bind G) := by
  unfold ab_pf; split
  · split <;> rfl
  · rfl
theorem ab_iald_b (h : ab_H) (r : Nat) (i : Int32) (K : Int32 → Option S) : (ab_iald h r i K).bind G = ab_iald h r i (fun x => (K x).bind G) := by
  unfold ab_iald; split
  · split <;> rfl
  · rfl
theorem ab_bald_b (h : ab_H) (r : Nat) (i : Int32) (K : Int32 → Option S) : (ab_bald h r i K).bind G = ab_bald h r i (fun x => (K x).bind G) := by
  unfold ab_bald; split
  · split <;> rfl
  · rfl
theorem ab_iast_b (h : ab_H) (r : Nat) (i x : Int32) (K : ab_H → Option S) : (ab_iast h r i x K).bind G = ab_iast h r i x (fun x => (K x).bind G) := by
  unfold ab_iast; split
  · split <;> rfl
  · rfl
theorem ab_bast_b (h : ab_H) (r : Nat) (i x : Int32) (K : ab_H → Option S) : (ab_bast h r i x K).bind G = ab_bast h r i x (fun x => (K x).bind G) := by
  unfold ab_bast; split
  · split <;> rfl
  · rfl
theorem ab_alen_b (h : ab_H) (r : Nat) (K : Int32 → Option S) : (ab_alen h r K).bind G = ab_alen h r (fun x => (K x).bind G) := by
  unfold ab_alen; split <;> rfl
theorem ab_aald_b (h : ab_H) (r : Nat) (i : Int32) (K : Nat → Option S) : (ab_aald h r i K).bind G = ab_aald h r i (fun x => (K x).bind G) := by
  unfold ab_aald; split
  · split
    · split <;> rfl
    · rfl
  · rfl
theorem ab_aast_b (h : ab_H) (r : Nat) (i : Int32) (v : Nat) (K : ab_H → Option S) : (ab_aast h r i v K).bind G = ab_aast h r i v (fun x => (K x).bind G) := by
  unfold ab_aast; split
  · split
    · split
      · split <;> rfl
      · rfl
    · rfl
  · rfl
theorem ab_acp_b (h : ab_H) (a : Nat) (sp : Int32) (d : Nat) (dp n : Int32) (K : ab_H → Option S) : (ab_acp h a sp d dp n K).bind G = ab_acp h a sp d dp n (fun x => (K x).bind G) := by
  unfold ab_acp; split
  · split
    · split <;> rfl
    · rfl
  · rfl
theorem ab_ckc_b (h : ab_H) (r c : Nat) (K : Option S) : (ab_ckc h r c K).bind G = ab_ckc h r c (K.bind G) := by
  unfold ab_ckc; split
  · split <;> rfl
  · rfl
theorem ab_chk_b (t : Nat) (x : Int32) (K : Option S) : (ab_chk t x K).bind G = ab_chk t x (K.bind G) := by
  unfold ab_chk; split
  · rfl
  · split <;> rfl
theorem ab_sw_b (x : Int32) (d : Nat) (K : Nat → Option S) : ∀ (ts : List Nat) (lo : Int32), (ab_sw ts lo x d K).bind G = ab_sw ts lo x d (fun t => (K t).bind G)
  | [], _ => rfl
  | t :: ts, lo => by
    unfold ab_sw
    split
    · rfl
    · exact ab_sw_b x d K ts (lo + 1)
end
set_option maxHeartbeats 4000000 in
theorem ab_stp_b {R : Type} (K : Nat → ab_L → List Value → ab_H → Option R) (Rt : Option Value → ab_H → Option R) (C : Nat → List Value → ab_H → Nat → Nat → ab_L → List Value → Option R) (i : ab_I) (L : ab_L) (st : List Value) (h : ab_H) :
    ab_stp K Rt C i L st h = (ab_st1 i L st h).bind (ab_fold K Rt C) := by
  unfold ab_st1 ab_stp
  split <;> first
    | (simp only [ab_ldi_b, ab_lda_b, ab_ldl_b, ab_pi_b, ab_pl_b, ab_pr_b, ab_popn_b, ab_few_b, ab_fit_b, ab_ite_b, ab_gfi_b, ab_gfr_b, ab_gfl_b, ab_pf_b, ab_iald_b, ab_bald_b, ab_iast_b, ab_bast_b, ab_alen_b, ab_aald_b, ab_aast_b, ab_acp_b, ab_ckc_b, ab_sw_b, Option.bind_some, Option.bind_none, ab_fold]; done)
    | rfl
    | (split <;> first | rfl | (simp only [ab_ite_b, ab_chk_b, Option.bind_some, Option.bind_none, ab_fold]; done))
section
variable {R : Type} {r : R}
theorem ab_ldi_inv {L : ab_L} {i : Nat} {K : Int32 → Option R} (e : ab_ldi L i K = some r) : ∃ x, L[i]? = some (some (.int x)) ∧ K x = some r := by
  unfold ab_ldi at e; split at e
  · exact ⟨_, by assumption, e⟩
  · cases e
theorem ab_lda_inv {L : ab_L} {i : Nat} {K : Nat → Option R} (e : ab_lda L i K = some r) : ∃ x, L[i]? = some (some (.ref x)) ∧ K x = some r := by
  unfold ab_lda at e; split at e
  · exact ⟨_, by assumption, e⟩
  · cases e
theorem ab_ldl_inv {L : ab_L} {i : Nat} {K : Int64 → Option R} (e : ab_ldl L i K = some r) : ∃ x z, L[i]? = some (some (.long x)) ∧ L[i + 1]? = some (some (.float z)) ∧ K x = some r := by
  unfold ab_ldl at e; split at e
  · split at e
    · exact ⟨_, _, by assumption, by assumption, e⟩
    · cases e
  · cases e
theorem ab_pi_inv {st : List Value} {K : Int32 → List Value → Option R} (e : ab_pi st K = some r) : ∃ x st', st = .int x :: st' ∧ K x st' = some r := by
  unfold ab_pi at e; split at e
  · exact ⟨_, _, rfl, e⟩
  · cases e
theorem ab_pl_inv {st : List Value} {K : Int64 → List Value → Option R} (e : ab_pl st K = some r) : ∃ x st', st = .long x :: st' ∧ K x st' = some r := by
  unfold ab_pl at e; split at e
  · exact ⟨_, _, rfl, e⟩
  · cases e
theorem ab_pr_inv {st : List Value} {K : Nat → List Value → Option R} (e : ab_pr st K = some r) : ∃ x st', st = .ref x :: st' ∧ K x st' = some r := by
  unfold ab_pr at e; split at e
  · exact ⟨_, _, rfl, e⟩
  · cases e
theorem ab_popn_inv {K : List Value → List Value → Option R} : ∀ (n : Nat) (st acc : List Value), ab_popn n st acc K = some r → ∃ as st', st = as.reverse ++ st' ∧ as.length = n ∧ K (as ++ acc) st' = some r
  | 0, st, acc, e => ⟨[], st, rfl, rfl, e⟩
  | n + 1, v :: st, acc, e => by
    obtain ⟨as, st', h1, h2, h3⟩ := ab_popn_inv n st (v :: acc) e
    refine ⟨as ++ [v], st', ?_, ?_, ?_⟩
    · rw [List.reverse_append, h1]; rfl
    · simp [h2]
    · rw [List.append_assoc]; exact h3
  | _ + 1, [], _, e => by cases e
theorem ab_few_inv {st : List Value} {K : Option R} (e : ab_few st K = some r) : ab_cat st ≤ 8 ∧ K = some r := by
  unfold ab_few at e; split at e
  · exact ⟨by assumption, e⟩
  · cases e
theorem ab_fit_inv {n : Nat} {st : List Value} {K : Option R} (e : ab_fit n st K = some r) : ab_cat st ≤ n ∧ K = some r := by
  unfold ab_fit at e; split at e
  · exact ⟨by assumption, e⟩
  · cases e
theorem ab_chk_inv {t : Nat} {x : Int32} {K : Option R} (e : ab_chk t x K = some r) : (t = 0 ∨ ab_nar t x = true) ∧ K = some r := by
  unfold ab_chk at e; split at e
  · exact ⟨Or.inl (by assumption), e⟩
  · split at e
    · exact ⟨Or.inr (by assumption), e⟩
    · cases e
theorem ab_ite_inv {c : Prop} [Decidable c] {A B : Option R} (e : (if c then A else B) = some r) : (c ∧ A = some r) ∨ (¬ c ∧ B = some r) := by
  split at e
  · exact Or.inl ⟨by assumption, e⟩
  · exact Or.inr ⟨by assumption, e⟩
theorem ab_gfi_inv {h : ab_H} {a c k : Nat} {K : Int32 → Option R} (e : ab_gfi h a c k K = some r) : ∃ fs x, ab_get h a = some (.inr (c, fs)) ∧ fs[k]? = some (.int x) ∧ K x = some r := by
  unfold ab_gfi at e; split at e
  · split at e
    · rename_i u hu hc
      obtain ⟨u1, u2⟩ := u
      cases hc
      split at e
      · exact ⟨_, _, hu, by assumption, e⟩
      · cases e
    · cases e
  · cases e
theorem ab_gfr_inv {h : ab_H} {a c k : Nat} {K : Nat → Option R} (e : ab_gfr h a c k K = some r) : ∃ fs x, ab_get h a = some (.inr (c, fs)) ∧ fs[k]? = some (.ref x) ∧ K x = some r := by
  unfold ab_gfr at e; split at e
  · split at e
    · rename_i u hu hc
      obtain ⟨u1, u2⟩ := u
      cases hc
      split at e
      · exact ⟨_, _, hu, by assumption, e⟩
      · cases e
    · cases e
  · cases e
theorem ab_gfl_inv {h : ab_H} {a c k : Nat} {K : Int64 → Option R} (e : ab_gfl h a c k K = some r) : ∃ fs x, ab_get h a = some (.inr (c, fs)) ∧ fs[k]? = some (.long x) ∧ K x = some r := by
  unfold ab_gfl at e; split at e
  · split at e
    · rename_i u hu hc
      obtain ⟨u1, u2⟩ := u
      cases hc
      split at e
      · exact ⟨_, _, hu, by assumption, e⟩
      · cases e
    · cases e
  · cases e
theorem ab_pf_inv {h : ab_H} {a c k : Nat} {v : Value} {K : ab_H → Option R} (e : ab_pf h a c k v K = some r) : ∃ fs, ab_get h a = some (.inr (c, fs)) ∧ k < fs.length ∧ K (ab_set h a (.inr (c, fs.set k v))) = some r := by
  unfold ab_pf at e; split at e
  · split at e
    · rename_i u hu hc
      obtain ⟨u1, u2⟩ := u
      obtain ⟨hc, hk⟩ := hc
      cases hc
      exact ⟨_, hu, hk, e⟩
    · cases e
  · cases e
theorem ab_iald_inv {h : ab_H} {a : Nat} {i : Int32} {K : Int32 → Option R} (e : ab_iald h a i K = some r) : ∃ t n f, ab_get h a = some (.inl (t, n, f)) ∧ (t = 0 ∨ t = 3) ∧ 0 ≤ i ∧ i.toNatClampNeg < n ∧ K (f i.toNatClampNeg) = some r := by
  unfold ab_iald at e; split at e
  · split at e
    · rename_i u hu hc
      obtain ⟨t, n, f⟩ := u
      exact ⟨t, n, f, hu, hc.1, hc.2.1, hc.2.2, e⟩
    · cases e
  · cases e
theorem ab_bald_inv {h : ab_H} {a : Nat} {i : Int32} {K : Int32 → Option R} (e : ab_bald h a i K = some r) : ∃ t n f, ab_get h a = some (.inl (t, n, f)) ∧ (t = 1 ∨ t = 2 ∨ t = 4) ∧ 0 ≤ i ∧ i.toNatClampNeg < n ∧ K (f i.toNatClampNeg) = some r := by
  unfold ab_bald at e; split at e
  · split at e
    · rename_i u hu hc
      obtain ⟨t, n, f⟩ := u
      exact ⟨t, n, f, hu, hc.1, hc.2.1, hc.2.2, e⟩
    · cases e
  · cases e
theorem ab_iast_inv {h : ab_H} {a : Nat} {i x : Int32} {K : ab_H → Option R} (e : ab_iast h a i x K = some r) : ∃ n f, ab_get h a = some (.inl (0, n, f)) ∧ 0 ≤ i ∧ i.toNatClampNeg < n ∧ K (ab_set h a (.inl (0, n, upd f i.toNatClampNeg x))) = some r := by
  unfold ab_iast at e; split at e
  · split at e
    · rename_i u hu hc
      obtain ⟨t, n, f⟩ := u
      obtain ⟨h1, h2, h3⟩ := hc
      cases h1
      exact ⟨n, f, hu, h2, h3, e⟩
    · cases e
  · cases e
theorem ab_bast_inv {h : ab_H} {a : Nat} {i x : Int32} {K : ab_H → Option R} (e : ab_bast h a i x K = some r) : ∃ t n f, ab_get h a = some (.inl (t, n, f)) ∧ (t = 1 ∨ t = 2) ∧ 0 ≤ i ∧ i.toNatClampNeg < n ∧ K (ab_set h a (.inl (t, n, upd f i.toNatClampNeg (if t = 1 then vp_nar .byte x else vp_nar .boolean x)))) = some r := by
  unfold ab_bast at e; split at e
  · split at e
    · rename_i u hu hc
      obtain ⟨t, n, f⟩ := u
      exact ⟨t, n, f, hu, hc.1, hc.2.1, hc.2.2, e⟩
    · cases e
  · cases e
theorem ab_alen_inv {h : ab_H} {a : Nat} {K : Int32 → Option R} (e : ab_alen h a K = some r) : ∃ t n f, ab_get h a = some (.inl (t, n, f)) ∧ K (Int32.ofNat n) = some r := by
  unfold ab_alen at e; split at e
  · rename_i u hu
    obtain ⟨t, n, f⟩ := u
    exact ⟨t, n, f, hu, e⟩
  · cases e
theorem ab_aald_inv {h : ab_H} {a : Nat} {i : Int32} {K : Nat → Option R} (e : ab_aald h a i K = some r) : ∃ fs x, ab_get h a = some (.inr (30, fs)) ∧ 0 ≤ i ∧ fs[i.toNatClampNeg]? = some (.ref x) ∧ K x = some r := by
  unfold ab_aald at e; split at e
  · split at e
    · rename_i u hu hc
      obtain ⟨u1, u2⟩ := u
      obtain ⟨h1, h2⟩ := hc
      cases h1
      split at e
      · exact ⟨_, _, hu, h2, by assumption, e⟩
      · cases e
    · cases e
  · cases e
theorem ab_aast_inv {h : ab_H} {a : Nat} {i : Int32} {v : Nat} {K : ab_H → Option R} (e : ab_aast h a i v K = some r) : ∃ fs vs, ab_get h a = some (.inr (30, fs)) ∧ 0 ≤ i ∧ i.toNatClampNeg < fs.length ∧ ab_get h v = some (.inr (3, vs)) ∧ K (ab_set h a (.inr (30, fs.set i.toNatClampNeg (.ref v)))) = some r := by
  unfold ab_aast at e; split at e
  · split at e
    · rename_i u hu hc
      obtain ⟨u1, u2⟩ := u
      obtain ⟨h1, h2, h3⟩ := hc
      cases h1
      split at e
      · split at e
        · rename_i w hw hw3
          obtain ⟨w1, w2⟩ := w
          cases hw3
          exact ⟨_, _, hu, h2, h3, hw, e⟩
        · cases e
      · cases e
    · cases e
  · cases e
theorem ab_acp_inv {h : ab_H} {a : Nat} {sp : Int32} {d : Nat} {dp n : Int32} {K : ab_H → Option R} (e : ab_acp h a sp d dp n K = some r) : ∃ n0 f n1 g, ab_get h a = some (.inl (0, n0, f)) ∧ ab_get h d = some (.inl (0, n1, g)) ∧ 0 ≤ sp ∧ 0 ≤ dp ∧ 0 ≤ n ∧ sp.toNatClampNeg + n.toNatClampNeg ≤ n0 ∧ dp.toNatClampNeg + n.toNatClampNeg ≤ n1 ∧ K (ab_set h d (.inl (0, n1, va_cpy f g sp.toNatClampNeg dp.toNatClampNeg n.toNatClampNeg))) = some r := by
  unfold ab_acp at e; split at e
  · rename_i u hu
    split at e
    · rename_i w hw
      split at e
      · rename_i hc
        obtain ⟨u1, u2, u3⟩ := u
        obtain ⟨w1, w2, w3⟩ := w
        obtain ⟨h1, h2, h3, h4, h5, h6, h7⟩ := hc
        cases h1
        cases h2
        exact ⟨u2, u3, w2, w3, hu, hw, h3, h4, h5, h6, h7, e⟩
      · cases e
    · cases e
  · cases e
theorem ab_ckc_inv {h : ab_H} {a c : Nat} {K : Option R} (e : ab_ckc h a c K = some r) : ∃ fs, ab_get h a = some (.inr (c, fs)) ∧ K = some r := by
  unfold ab_ckc at e; split at e
  · split at e
    · rename_i u hu hc
      obtain ⟨u1, u2⟩ := u
      cases hc
      exact ⟨_, hu, e⟩
    · cases e
  · cases e
end
