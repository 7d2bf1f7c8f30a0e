/-! runs with fuel; the meaning E of a place, F of a call, and how they unfold -/
abbrev ab_R : Type := Option Value × ab_H
/-- locals at a method's entry -/
def ab_args : List Value → ab_L
  | [] => []
  | .long x :: r => some (.long x) :: some (.float 0) :: ab_args r
  | .double x :: r => some (.double x) :: some (.float 0) :: ab_args r
  | v :: r => some v :: ab_args r
def ab_pad : Nat → ab_L → ab_L
  | 0, _ => []
  | n + 1, [] => none :: ab_pad n []
  | n + 1, a :: r => a :: ab_pad n r
def ab_ent (n : Nat) (as : List Value) : ab_L := ab_pad n (ab_args as)
/-- what a call gives back, by the sort of its answer: 0 int, 2 long, 3 nothing -/
def ab_cI {R : Type} (r : Option ab_R) (K : Int32 → ab_H → Option R) : Option R := match r with
  | some (some (.int x), h) => K x h
  | _ => none
def ab_cL {R : Type} (r : Option ab_R) (K : Int64 → ab_H → Option R) : Option R := match r with
  | some (some (.long x), h) => K x h
  | _ => none
def ab_cV {R : Type} (r : Option ab_R) (K : ab_H → Option R) : Option R := match r with
  | some (none, h) => K h
  | _ => none
def ab_cal {R : Type} (t : Nat) (r : Option ab_R) (st : List Value) (K : List Value → ab_H → Option R) : Option R :=
  if t = 0 then ab_cI r (fun x h => K (.int x :: st) h) else if t = 2 then ab_cL r (fun x h => K (.long x :: st) h) else if t = 3 then ab_cV r (fun h => K st h) else none
theorem ab_cI_inv {R : Type} {r : Option ab_R} {K : Int32 → ab_H → Option R} {y : R} (e : ab_cI r K = some y) : ∃ x h, r = some (some (.int x), h) ∧ K x h = some y := by
  unfold ab_cI at e
  split at e
  · exact ⟨_, _, rfl, e⟩
  · cases e
theorem ab_cL_inv {R : Type} {r : Option ab_R} {K : Int64 → ab_H → Option R} {y : R} (e : ab_cL r K = some y) : ∃ x h, r = some (some (.long x), h) ∧ K x h = some y := by
  unfold ab_cL at e
  split at e
  · exact ⟨_, _, rfl, e⟩
  · cases e
theorem ab_cV_inv {R : Type} {r : Option ab_R} {K : ab_H → Option R} {y : R} (e : ab_cV r K = some y) : ∃ h, r = some (none, h) ∧ K h = some y := by
  unfold ab_cV at e
  split at e
  · exact ⟨_, rfl, e⟩
  · cases e
/-- a call's answer, and what goes on with it -/
theorem ab_cal_inv {R : Type} {t : Nat} {r : Option ab_R} {st : List Value} {K : List Value → ab_H → Option R} {y : R} (e : ab_cal t r st K = some y) :
    ∃ v h, r = some (v, h) ∧ K (v.toList ++ st) h = some y ∧ (∀ K' : List Value → ab_H → Option R, ab_cal t r st K' = K' (v.toList ++ st) h) ∧ ((t = 0 ∧ ∃ x, v = some (.int x)) ∨ (t = 2 ∧ ∃ x, v = some (.long x)) ∨ (t = 3 ∧ v = none)) := by
  unfold ab_cal at e
  split at e
  · rename_i ht
    obtain ⟨x, h, rfl, hk⟩ := ab_cI_inv e
    exact ⟨_, h, rfl, hk, fun K' => by simp [ab_cal, ht, ab_cI], Or.inl ⟨ht, x, rfl⟩⟩
  · split at e
    · rename_i h0 ht
      obtain ⟨x, h, rfl, hk⟩ := ab_cL_inv e
      exact ⟨_, h, rfl, hk, fun K' => by simp [ab_cal, ht, ab_cL], Or.inr (Or.inl ⟨ht, x, rfl⟩)⟩
    · split at e
      · rename_i h0 h2 ht
        obtain ⟨h, rfl, hk⟩ := ab_cV_inv e
        exact ⟨_, h, rfl, hk, fun K' => by simp [ab_cal, ht, ab_cV], Or.inr (Or.inr ⟨ht, rfl⟩)⟩
      · cases e
section
variable (cd : Nat → Nat → Option ab_I) (mx : Nat → Nat)
def ab_run : Nat → Nat → Nat → ab_L → List Value → ab_H → Option ab_R
  | 0, _, _, _, _, _ => none
  | f + 1, y, pc, L, st, h => match cd y pc with
    | none => none
    | some i => (ab_st1 i L st h).bind (ab_fold (fun pc L st h => ab_run f y pc L st h) (fun v h => some (v, h)) (fun z as h t nx L st => ab_cal t (ab_run f z 0 (ab_ent (mx z) as) [] h) st fun st h => ab_run f y nx L st h))
theorem ab_cal_mono {R : Type} {t : Nat} {r r' : Option ab_R} {st : List Value} {K K' : List Value → ab_H → Option R} {x : R} (hr : ∀ q, r = some q → r' = some q) (hK : ∀ s h, K s h = some x → K' s h = some x) (e : ab_cal t r st K = some x) : ab_cal t r' st K' = some x := by
  obtain ⟨v, h, h1, h2, h3, -⟩ := ab_cal_inv e
  rw [hr _ h1, ← h1, h3]
  exact hK _ _ h2
theorem ab_run_mono : ∀ (f : Nat) {y pc : Nat} {L : ab_L} {st : List Value} {h : ab_H} {r : ab_R}, ab_run cd mx f y pc L st h = some r → ab_run cd mx (f + 1) y pc L st h = some r := by
  intro f
  induction f with
  | zero => intro y pc L st h r e; cases e
  | succ f ih =>
    intro y pc L st h r e
    rw [ab_run] at e ⊢
    cases hc : cd y pc with
    | none => rw [hc] at e; cases e
    | some i =>
      rw [hc] at e
      dsimp only at e ⊢
      cases hd : ab_st1 i L st h with
      | none => rw [hd] at e; cases e
      | some d =>
        rw [hd] at e
        rw [Option.bind_some] at e ⊢
        rcases d with ⟨pc', L', st', h'⟩ | ⟨v, h'⟩ | ⟨z, as, h', t, nx, L', st'⟩
        · exact ih e
        · exact e
        · exact ab_cal_mono (fun q hq => ih hq) (fun s h => ih) e
theorem ab_run_le {f f' : Nat} (hf : f ≤ f') {y pc : Nat} {L : ab_L} {st : List Value} {h : ab_H} {r : ab_R} (e : ab_run cd mx f y pc L st h = some r) : ab_run cd mx f' y pc L st h = some r := by
  induction hf with
  | refl => exact e
  | step _ ih => exact ab_run_mono cd mx _ ih
theorem ab_run_one {f f' : Nat} {y pc : Nat} {L : ab_L} {st : List Value} {h : ab_H} {r r' : ab_R} (e : ab_run cd mx f y pc L st h = some r) (e' : ab_run cd mx f' y pc L st h = some r') : r = r' := by
  have a := ab_run_le cd mx (Nat.le_max_left f f') e
  have b := ab_run_le cd mx (Nat.le_max_right f f') e'
  rw [a] at b
  exact Option.some.inj b
noncomputable def ab_E (y pc : Nat) (L : ab_L) (st : List Value) (h : ab_H) : Option ab_R := match Classical.propDecidable (∃ r, ∃ f, ab_run cd mx f y pc L st h = some r) with
  | .isTrue hx => some (Classical.choose hx)
  | .isFalse _ => none
noncomputable def ab_F (z : Nat) (as : List Value) (h : ab_H) : Option ab_R := ab_E cd mx z 0 (ab_ent (mx z) as) [] h
theorem ab_E_iff {y pc : Nat} {L : ab_L} {st : List Value} {h : ab_H} {r : ab_R} : ab_E cd mx y pc L st h = some r ↔ ∃ f, ab_run cd mx f y pc L st h = some r := by
  unfold ab_E
  split
  · rename_i hx _
    obtain ⟨f, hf⟩ := Classical.choose_spec hx
    constructor
    · intro e
      cases e
      exact ⟨f, hf⟩
    · rintro ⟨g, hg⟩
      rw [ab_run_one cd mx hf hg]
  · rename_i hx _
    constructor
    · intro e; cases e
    · rintro ⟨g, hg⟩
      exact absurd ⟨r, g, hg⟩ hx
theorem ab_E_eq {y pc : Nat} {i : ab_I} (hc : cd y pc = some i) (L : ab_L) (st : List Value) (h : ab_H) : ab_E cd mx y pc L st h =
    ab_stp (fun pc L st h => ab_E cd mx y pc L st h) (fun v h => some (v, h)) (fun z as h t nx L st => ab_cal t (ab_F cd mx z as h) st fun st h => ab_E cd mx y nx L st h) i L st h := by
  rw [ab_stp_b]
  apply Option.ext
  intro r
  rw [ab_E_iff]
  constructor
  · rintro ⟨f, e⟩
    cases f with
    | zero => cases e
    | succ f =>
      rw [ab_run, hc] at e
      dsimp only at e
      cases hd : ab_st1 i L st h with
      | none => rw [hd] at e; cases e
      | some d =>
        rw [hd] at e
        rw [Option.bind_some] at e ⊢
        rcases d with ⟨pc', L', st', h'⟩ | ⟨v, h'⟩ | ⟨z, as, h', t, nx, L', st'⟩
        · exact (ab_E_iff cd mx).mpr ⟨f, e⟩
        · exact e
        · exact ab_cal_mono (fun q hq => (ab_E_iff cd mx).mpr ⟨f, hq⟩) (fun s h hq => (ab_E_iff cd mx).mpr ⟨f, hq⟩) e
  · intro e
    cases hd : ab_st1 i L st h with
    | none => rw [hd] at e; cases e
    | some d =>
      rw [hd] at e
      rw [Option.bind_some] at e
      have go : ∀ f, ab_fold (fun pc L st h => ab_run cd mx f y pc L st h) (fun v h => some (v, h)) (fun z as h t nx L st => ab_cal t (ab_run cd mx f z 0 (ab_ent (mx z) as) [] h) st fun st h => ab_run cd mx f y nx L st h) d = some r → ∃ f, ab_run cd mx f y pc L st h = some r := by
        intro f hf
        refine ⟨f + 1, ?_⟩
        rw [ab_run, hc]
        dsimp only
        rw [hd, Option.bind_some]
        exact hf
      rcases d with ⟨pc', L', st', h'⟩ | ⟨v, h'⟩ | ⟨z, as, h', t, nx, L', st'⟩
      · obtain ⟨f, hf⟩ := (ab_E_iff cd mx).mp e
        exact go f hf
      · exact go 0 e
      · dsimp only [ab_fold] at e
        cases hF : ab_F cd mx z as h' with
        | none =>
          rw [hF] at e
          obtain ⟨v, h2, h3, -⟩ := ab_cal_inv e
          cases h3
        | some q =>
          obtain ⟨f1, h1⟩ := (ab_E_iff cd mx).mp hF
          rw [hF] at e
          obtain ⟨v, h2, h3, h4, h5, -⟩ := ab_cal_inv e
          obtain ⟨f2, h6⟩ := (ab_E_iff cd mx).mp h4
          refine go (max f1 f2) ?_
          dsimp only [ab_fold]
          rw [ab_run_le cd mx (Nat.le_max_left f1 f2) h1, h5]
          exact ab_run_le cd mx (Nat.le_max_right f1 f2) h6
/-- many instructions at once, up to the places where 'cut' says true -/
noncomputable def ab_go (cut : Nat → Bool) : Nat → Nat → Nat → ab_L → List Value → ab_H → Option ab_R
  | 0, y, pc, L, st, h => ab_E cd mx y pc L st h
  | n + 1, y, pc, L, st, h => match cd y pc with
    | none => none
    | some i => ab_stp (fun pc L st h => bif cut pc then ab_E cd mx y pc L st h else ab_go cut n y pc L st h) (fun v h => some (v, h)) (fun z as h t nx L st => ab_cal t (ab_F cd mx z as h) st fun st h => bif cut nx then ab_E cd mx y nx L st h else ab_go cut n y nx L st h) i L st h
theorem ab_E_none {y pc : Nat} (hc : cd y pc = none) (L : ab_L) (st : List Value) (h : ab_H) : ab_E cd mx y pc L st h = none := by
  cases e : ab_E cd mx y pc L st h with
  | none => rfl
  | some r =>
    obtain ⟨f, hf⟩ := (ab_E_iff cd mx).mp e
    cases f with
    | zero => cases hf
    | succ f => rw [ab_run, hc] at hf; cases hf
theorem ab_go_eq (cut : Nat → Bool) : ∀ (n y pc : Nat) (L : ab_L) (st : List Value) (h : ab_H), ab_E cd mx y pc L st h = ab_go cd mx cut n y pc L st h := by
  intro n
  induction n with
  | zero => intro y pc L st h; rfl
  | succ n ih =>
    intro y pc L st h
    rw [ab_go]
    cases hc : cd y pc with
    | none => exact ab_E_none cd mx hc L st h
    | some i =>
      rw [ab_E_eq cd mx hc]
      dsimp only
      congr 1
      · funext pc L st h
        cases cut pc
        · exact ih y pc L st h
        · rfl
      · funext z as h t nx L st
        congr 1
        funext st h
        cases cut nx
        · exact ih y nx L st h
        · rfl
end
