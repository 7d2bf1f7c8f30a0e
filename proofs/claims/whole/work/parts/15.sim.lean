/-! the real machine follows the pure one: a whole run -/
def ab_hp : ab_D → ab_H
  | .inl (_, _, _, h) => h
  | .inr (.inl (_, h)) => h
  | .inr (.inr (_, _, h, _, _, _, _)) => h
theorem ab_popn_iv {R : Type} {r : R} {K : List Value → List Value → Option R} {n : Nat} {st : List Value} (e : ab_popn n st [] K = some r) : ∃ as st', st = as.reverse ++ st' ∧ as.length = n ∧ K as st' = some r := by
  obtain ⟨as, st', h1, h2, h3⟩ := ab_popn_inv n st [] e
  rw [List.append_nil] at h3
  exact ⟨as, st', h1, h2, h3⟩
theorem ab_sw_inv {R : Type} {r : R} {x : Int32} {d : Nat} {K : Nat → Option R} : ∀ (ts : List Nat) (lo : Int32), ab_sw ts lo x d K = some r → (∃ (j : Nat) (tgt : Nat), ts[j]? = some tgt ∧ x = lo + nI j ∧ K tgt = some r) ∨ ((∀ j : Nat, j < ts.length → x ≠ lo + nI j) ∧ K d = some r)
  | [], lo, e => Or.inr ⟨fun j hj => absurd hj (by simp), e⟩
  | t :: ts, lo, e => by
    unfold ab_sw at e
    rcases ab_ite_inv e with ⟨hx, e⟩ | ⟨hx, e⟩
    · exact Or.inl ⟨0, t, rfl, by rw [hx, nI_0]; simp, e⟩
    · have hs : ∀ j : Nat, lo + 1 + nI j = lo + nI (j + 1) := fun j => by
        rw [nI_succ, Int32.add_assoc, Int32.add_comm 1 (nI j)]
      rcases ab_sw_inv ts (lo + 1) e with ⟨j, tgt, h1, h2, h3⟩ | ⟨h1, h2⟩
      · exact Or.inl ⟨j + 1, tgt, by simpa using h1, by rw [h2, hs], h3⟩
      · refine Or.inr ⟨fun j hj => ?_, h2⟩
        cases j with
        | zero => rw [nI_0]; simpa using hx
        | succ j =>
          rw [← hs]
          exact h1 j (by simpa using hj)
section
variable {R : Type} {r : R} {P : Prop}
theorem al_pi {st : List Value} {K : Int32 → List Value → Option R} (k : ∀ x s, K x s = some r → P) (e : ab_pi st K = some r) : P := by
  obtain ⟨_, _, _, e⟩ := ab_pi_inv e; exact k _ _ e
theorem al_pl {st : List Value} {K : Int64 → List Value → Option R} (k : ∀ x s, K x s = some r → P) (e : ab_pl st K = some r) : P := by
  obtain ⟨_, _, _, e⟩ := ab_pl_inv e; exact k _ _ e
theorem al_pr {st : List Value} {K : Nat → List Value → Option R} (k : ∀ x s, K x s = some r → P) (e : ab_pr st K = some r) : P := by
  obtain ⟨_, _, _, e⟩ := ab_pr_inv e; exact k _ _ e
theorem al_ldi {L : ab_L} {i : Nat} {K : Int32 → Option R} (k : ∀ x, K x = some r → P) (e : ab_ldi L i K = some r) : P := by
  obtain ⟨_, _, e⟩ := ab_ldi_inv e; exact k _ e
theorem al_lda {L : ab_L} {i : Nat} {K : Nat → Option R} (k : ∀ x, K x = some r → P) (e : ab_lda L i K = some r) : P := by
  obtain ⟨_, _, e⟩ := ab_lda_inv e; exact k _ e
theorem al_ldl {L : ab_L} {i : Nat} {K : Int64 → Option R} (k : ∀ x, K x = some r → P) (e : ab_ldl L i K = some r) : P := by
  obtain ⟨_, _, _, _, e⟩ := ab_ldl_inv e; exact k _ e
theorem al_gfi {h : ab_H} {a c i : Nat} {K : Int32 → Option R} (k : ∀ x, K x = some r → P) (e : ab_gfi h a c i K = some r) : P := by
  obtain ⟨_, _, _, _, e⟩ := ab_gfi_inv e; exact k _ e
theorem al_gfr {h : ab_H} {a c i : Nat} {K : Nat → Option R} (k : ∀ x, K x = some r → P) (e : ab_gfr h a c i K = some r) : P := by
  obtain ⟨_, _, _, _, e⟩ := ab_gfr_inv e; exact k _ e
theorem al_gfl {h : ab_H} {a c i : Nat} {K : Int64 → Option R} (k : ∀ x, K x = some r → P) (e : ab_gfl h a c i K = some r) : P := by
  obtain ⟨_, _, _, _, e⟩ := ab_gfl_inv e; exact k _ e
theorem al_pf {h : ab_H} {a c i : Nat} {v : Value} {K : ab_H → Option R} (k : ∀ x : ab_H, x.1 = h.1 → K x = some r → P) (e : ab_pf h a c i v K = some r) : P := by
  obtain ⟨_, _, _, e⟩ := ab_pf_inv e; refine k _ ?_ e; rfl
theorem al_iald {h : ab_H} {a : Nat} {i : Int32} {K : Int32 → Option R} (k : ∀ x, K x = some r → P) (e : ab_iald h a i K = some r) : P := by
  obtain ⟨_, _, _, _, _, _, _, e⟩ := ab_iald_inv e; exact k _ e
theorem al_bald {h : ab_H} {a : Nat} {i : Int32} {K : Int32 → Option R} (k : ∀ x, K x = some r → P) (e : ab_bald h a i K = some r) : P := by
  obtain ⟨_, _, _, _, _, _, _, e⟩ := ab_bald_inv e; exact k _ e
theorem al_iast {h : ab_H} {a : Nat} {i v : Int32} {K : ab_H → Option R} (k : ∀ x : ab_H, x.1 = h.1 → K x = some r → P) (e : ab_iast h a i v K = some r) : P := by
  obtain ⟨_, _, _, _, _, e⟩ := ab_iast_inv e; refine k _ ?_ e; rfl
theorem al_bast {h : ab_H} {a : Nat} {i v : Int32} {K : ab_H → Option R} (k : ∀ x : ab_H, x.1 = h.1 → K x = some r → P) (e : ab_bast h a i v K = some r) : P := by
  obtain ⟨_, _, _, _, _, _, _, e⟩ := ab_bast_inv e; refine k _ ?_ e; rfl
theorem al_alen {h : ab_H} {a : Nat} {K : Int32 → Option R} (k : ∀ x, K x = some r → P) (e : ab_alen h a K = some r) : P := by
  obtain ⟨_, _, _, _, e⟩ := ab_alen_inv e; exact k _ e
theorem al_aald {h : ab_H} {a : Nat} {i : Int32} {K : Nat → Option R} (k : ∀ x, K x = some r → P) (e : ab_aald h a i K = some r) : P := by
  obtain ⟨_, _, _, _, _, e⟩ := ab_aald_inv e; exact k _ e
theorem al_aast {h : ab_H} {a : Nat} {i : Int32} {v : Nat} {K : ab_H → Option R} (k : ∀ x : ab_H, x.1 = h.1 → K x = some r → P) (e : ab_aast h a i v K = some r) : P := by
  obtain ⟨_, _, _, _, _, _, e⟩ := ab_aast_inv e; refine k _ ?_ e; rfl
theorem al_acp {h : ab_H} {a : Nat} {sp : Int32} {d : Nat} {dp n : Int32} {K : ab_H → Option R} (k : ∀ x : ab_H, x.1 = h.1 → K x = some r → P) (e : ab_acp h a sp d dp n K = some r) : P := by
  obtain ⟨_, _, _, _, _, _, _, _, _, _, _, e⟩ := ab_acp_inv e; refine k _ ?_ e; rfl
theorem al_few {st : List Value} {K : Option R} (k : K = some r → P) (e : ab_few st K = some r) : P := k (ab_few_inv e).2
theorem al_fit {n : Nat} {st : List Value} {K : Option R} (k : K = some r → P) (e : ab_fit n st K = some r) : P := k (ab_fit_inv e).2
theorem al_chk {n : Nat} {x : Int32} {K : Option R} (k : K = some r → P) (e : ab_chk n x K = some r) : P := k (ab_chk_inv e).2
theorem al_ckc {h : ab_H} {a c : Nat} {K : Option R} (k : K = some r → P) (e : ab_ckc h a c K = some r) : P := by
  obtain ⟨_, _, e⟩ := ab_ckc_inv e; exact k e
theorem al_popn {n : Nat} {st acc : List Value} {K : List Value → List Value → Option R} (k : ∀ x s, K x s = some r → P) (e : ab_popn n st acc K = some r) : P := by
  obtain ⟨_, _, _, _, e⟩ := ab_popn_inv n st acc e; exact k _ _ e
theorem al_sw {ts : List Nat} {lo x : Int32} {d : Nat} {K : Nat → Option R} (k : ∀ x, K x = some r → P) (e : ab_sw ts lo x d K = some r) : P := by
  rcases ab_sw_inv ts lo e with ⟨_, _, _, _, e⟩ | ⟨_, e⟩
  · exact k _ e
  · exact k _ e
theorem al_ite {c : Prop} [Decidable c] {A B : Option R} (k1 : A = some r → P) (k2 : B = some r → P) (e : (if c then A else B) = some r) : P := by
  rcases ab_ite_inv e with ⟨_, e⟩ | ⟨_, e⟩
  · exact k1 e
  · exact k2 e
end
set_option maxHeartbeats 4000000 in
theorem ab_st1_mono {i : ab_I} {L : ab_L} {st : List Value} {h : ab_H} {d : ab_D} : ab_st1 i L st h = some d → h.1 ≤ (ab_hp d).1 := by
  unfold ab_st1 ab_stp
  split
  all_goals repeat' first
    | (refine al_pi (fun _ _ => ?_))
    | (refine al_pl (fun _ _ => ?_))
    | (refine al_pr (fun _ _ => ?_))
    | (refine al_ldi (fun _ => ?_))
    | (refine al_lda (fun _ => ?_))
    | (refine al_ldl (fun _ => ?_))
    | (refine al_gfi (fun _ => ?_))
    | (refine al_gfr (fun _ => ?_))
    | (refine al_gfl (fun _ => ?_))
    | (refine al_pf (fun _ hh => ?_))
    | (refine al_iald (fun _ => ?_))
    | (refine al_bald (fun _ => ?_))
    | (refine al_iast (fun _ hh => ?_))
    | (refine al_bast (fun _ hh => ?_))
    | (refine al_alen (fun _ => ?_))
    | (refine al_aald (fun _ => ?_))
    | (refine al_aast (fun _ hh => ?_))
    | (refine al_acp (fun _ hh => ?_))
    | (refine al_few ?_)
    | (refine al_fit ?_)
    | (refine al_chk ?_)
    | (refine al_ckc ?_)
    | (refine al_popn (fun _ _ => ?_))
    | (refine al_sw (fun _ => ?_))
    | (refine al_ite ?_ ?_)
    | (intro e; cases e; done)
    | (intro e; cases e; exact Nat.le_refl _)
    | (intro e; cases e; exact Nat.le_succ _)
    | (intro e; cases e; exact Nat.le_of_eq (by assumption))
    | (intro e; cases e; exact Nat.le_of_eq (Eq.symm (by assumption)))
    | split
theorem ab_run_le_heap : ∀ (f : Nat) {y pc : Nat} {L : ab_L} {st : List Value} {h : ab_H} {v : Option Value} {h' : ab_H}, ab_run cdT mxT f y pc L st h = some (v, h') → h.1 ≤ h'.1 := by
  intro f
  induction f with
  | zero => intro y pc L st h v h' e; cases e
  | succ f ih =>
    intro y pc L st h v h' e
    rw [ab_run] at e
    cases hc : cdT y pc with
    | none => rw [hc] at e; cases e
    | some i =>
      rw [hc] at e
      dsimp only at e
      cases hd : ab_st1 i L st h with
      | none => rw [hd] at e; cases e
      | some d =>
        rw [hd, Option.bind_some] at e
        have h1 := ab_st1_mono hd
        rcases d with ⟨pc', L', st', h2⟩ | ⟨v2, h2⟩ | ⟨z, as, h2, t, nx, L', st'⟩
        · exact Nat.le_trans h1 (ih e)
        · cases e; exact h1
        · obtain ⟨v3, h3, e1, e2, -⟩ := ab_cal_inv e
          exact Nat.le_trans h1 (Nat.le_trans (ih e1) (ih e2))
